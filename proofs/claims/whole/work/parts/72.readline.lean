/-! ===== the model reads a line of THE ROADS ===== -/
def mR (p : Nat) (τ τ' : jT) : Prop := (∀ z, z ≠ 4176 → z ≠ 4177 → z ≠ 4181 → τ'.1 z = τ.1 z) ∧ (∀ o, o ≠ 73 → o ≠ 74 → o ≠ 75 → τ'.2 o = τ.2 o) ∧ (∀ p', p' ≠ p → τ'.2 73 p' = τ.2 73 p') ∧ ∀ j, j < 3 * p ∨ 3 * p + 3 ≤ j → τ'.2 74 j = τ.2 74 j ∧ τ'.2 75 j = τ.2 75 j
theorem mR_trans {p : Nat} {a b c : jT} (h1 : mR p a b) (h2 : mR p b c) : mR p a c := ⟨fun z a1 a2 a3 => (h2.1 z a1 a2 a3).trans (h1.1 z a1 a2 a3), fun o a1 a2 a3 => (h2.2.1 o a1 a2 a3).trans (h1.2.1 o a1 a2 a3), fun p' h => (h2.2.2.1 p' h).trans (h1.2.2.1 p' h), fun j h => ⟨((h2.2.2.2 j h).1).trans (h1.2.2.2 j h).1, ((h2.2.2.2 j h).2).trans (h1.2.2.2 j h).2⟩⟩
theorem mR_g {p : Nat} {τ : jT} {z : Nat} {v : Int32} (hz : z = 4176 ∨ z = 4177 ∨ z = 4181) : mR p τ (gs τ z v) := ⟨fun y a1 a2 a3 => if_neg (by omega), fun _ _ _ _ => rfl, fun _ _ => rfl, fun _ _ => ⟨rfl, rfl⟩⟩
theorem mR_refl (p : Nat) (τ : jT) : mR p τ τ := ⟨fun _ _ _ _ => rfl, fun _ _ _ _ => rfl, fun _ _ => rfl, fun _ _ => ⟨rfl, rfl⟩⟩
/-- the letters of line p, from i on, that were read -/
def aRow (d : Nat → Nat) (i p k : Nat) (τ : jT) : Prop := τ.2 73 p = nI k ∧ ∀ k', k' < k → τ.2 74 (3 * p + k') = nI (d (i + k') - 97) ∧ τ.2 75 (3 * p + k') = nI (i + k')
theorem m_lets {L M i p : Nat} {d : Nat → Nat} (hp : p < 10) (hi : i ≤ 76) : ∀ (m k fu : Nat) (τ : jT), k + m = 3 → m < fu → mX L M (i + k) d τ → (∀ k', k' < k → sIn L M d (i + k') 97 106) → aRow d i p k τ →
    ∃ τ', f_X11_readPlace_T_b16 fu (nI p) τ = f_X11_readPlace_T_b111 (nI p) τ' ∧ mX L M (i + lW L M d i) d τ' ∧ mR p τ τ' ∧ aRow d i p (lW L M d i) τ' ∧ τ'.1 4181 = τ.1 4181 := by
  intro m
  induction m with
  | zero =>
    intro k fu τ hk hf hm ha hr
    obtain ⟨fu, rfl⟩ : ∃ f', fu = f' + 1 := ⟨fu - 1, by omega⟩
    obtain rfl : k = 3 := by omega
    have ew := hm.2.2.2.2.2.2.1
    rw [f_X11_readPlace_T_b16, m_fine ew]
    simp only [bnd]
    rw [if_neg (show ¬ (1 : Int32) = 0 by decide), if_pos (ja_in (n := 10) (by omega) (by omega)), nI_clamp (by omega), hr.1, if_pos (show (3 : Int32) ≤ nI 3 by decide)]
    rw [lW_uniq (Nat.le_refl _) ha (fun q => by omega)]
    exact ⟨τ, rfl, hm, mR_refl p τ, hr, rfl⟩
  | succ m ih =>
    intro k fu τ hk hf hm ha hr
    obtain ⟨fu, rfl⟩ : ∃ f', fu = f' + 1 := ⟨fu - 1, by omega⟩
    obtain ⟨hL, hM, hi80, e1, e2, e3, ew, e4⟩ := id hm
    rw [f_X11_readPlace_T_b16, m_fine ew]
    simp only [bnd]
    rw [if_neg (show ¬ (1 : Int32) = 0 by decide), if_pos (ja_in (n := 10) (by omega) (by omega)), nI_clamp (by omega), hr.1, if_neg (show ¬ (3 : Int32) ≤ nI k from nI_ge (b := 3) (by omega) (by omega)), m_here hm]
    simp only [bnd]
    have ei := m_inS (i := i + k) (M := M) (a := 97) (b := 106) (τ := τ) (fun j hj => (e4 j hj).1) (by omega) (by omega)
    have ei' : f_X11_in (sgn L M d (i + k)) 97 106 τ = _ := ei
    rw [ei']
    simp only [bnd]
    by_cases c : sIn L M d (i + k) 97 106
    · have hc := c
      obtain ⟨c1, c2, c3, c4⟩ := hc
      rw [if_pos c, if_neg (show ¬ (1 : Int32) = 0 by decide), m_here hm]
      simp only [bnd]
      rw [hr.1, ix3 hp (by omega), if_pos (ja_in (n := 30) (by omega) (by omega)), if_pos (ja_in (n := 30) (by omega) (by omega)), nI_clamp (by omega), sgn_t c1 c2, e3, nS, nS, show nI (d (i + k)) - 97 = nI (d (i + k) - 97) from ja_sub (s := 97) c3]
      have mr1 : mR p τ (gs (gA (gA (gA τ 74 (3 * p + k) (nI (d (i + k) - 97))) 75 (3 * p + k) (nI (i + k))) 73 p (nI (k + 1))) 4176 (nI (i + k + 1))) := by
        refine ⟨fun z a1 _ _ => if_neg a1, fun o a1 a2 a3 => funext fun j => ?_, fun p' h => ?_, fun j h => ⟨?_, ?_⟩⟩
        · show (gA (gA (gA τ 74 (3 * p + k) (nI (d (i + k) - 97))) 75 (3 * p + k) (nI (i + k))) 73 p (nI (k + 1))).2 o j = τ.2 o j
          rw [ja_gA, if_neg (fun q => a1 q.1), ja_gA, if_neg (fun q => a3 q.1), ja_gA, if_neg (fun q => a2 q.1)]
        · show (gA (gA (gA τ 74 (3 * p + k) (nI (d (i + k) - 97))) 75 (3 * p + k) (nI (i + k))) 73 p (nI (k + 1))).2 73 p' = τ.2 73 p'
          rw [ja_gA, if_neg (fun q => h q.2), ja_gA, if_neg (fun q => absurd q.1 (by decide)), ja_gA, if_neg (fun q => absurd q.1 (by decide))]
        · show (gA (gA (gA τ 74 (3 * p + k) (nI (d (i + k) - 97))) 75 (3 * p + k) (nI (i + k))) 73 p (nI (k + 1))).2 74 j = τ.2 74 j
          rw [ja_gA, if_neg (fun q => absurd q.1 (by decide)), ja_gA, if_neg (fun q => absurd q.1 (by decide)), ja_gA, if_neg (fun q => by omega)]
        · show (gA (gA (gA τ 74 (3 * p + k) (nI (d (i + k) - 97))) 75 (3 * p + k) (nI (i + k))) 73 p (nI (k + 1))).2 75 j = τ.2 75 j
          rw [ja_gA, if_neg (fun q => absurd q.1 (by decide)), ja_gA, if_neg (fun q => by omega), ja_gA, if_neg (fun q => absurd q.1 (by decide))]
      have hm1 : mX L M (i + (k + 1)) d (gs (gA (gA (gA τ 74 (3 * p + k) (nI (d (i + k) - 97))) 75 (3 * p + k) (nI (i + k))) 73 p (nI (k + 1))) 4176 (nI (i + k + 1))) := by
        refine mX_1 (i := i + k) (mX_o hm (fun z _ _ => rfl) ?_) (by omega)
        exact funext fun j => by rw [ja_gA, if_neg (fun q => absurd q.1 (by decide)), ja_gA, if_neg (fun q => absurd q.1 (by decide)), ja_gA, if_neg (fun q => absurd q.1 (by decide))]
      obtain ⟨τ', f1, f2, f3, f4, f5⟩ := ih (k + 1) fu _ (by omega) (by omega) hm1 (fun k' hk' => by
        by_cases z : k' = k
        · rw [z]; exact c
        · exact ha k' (by omega)) ⟨by
          show (gA (gA (gA τ 74 (3 * p + k) (nI (d (i + k) - 97))) 75 (3 * p + k) (nI (i + k))) 73 p (nI (k + 1))).2 73 p = _
          rw [ja_gA, if_pos ⟨rfl, rfl⟩], fun k' hk' => ⟨by
          show (gA (gA (gA τ 74 (3 * p + k) (nI (d (i + k) - 97))) 75 (3 * p + k) (nI (i + k))) 73 p (nI (k + 1))).2 74 (3 * p + k') = _
          rw [ja_gA, if_neg (fun q => absurd q.1 (by decide)), ja_gA, if_neg (fun q => absurd q.1 (by decide)), ja_gA]
          by_cases z : k' = k
          · rw [if_pos ⟨rfl, by omega⟩, z]
          · rw [if_neg (fun q => z (by omega))]; exact (hr.2 k' (by omega)).1, by
          show (gA (gA (gA τ 74 (3 * p + k) (nI (d (i + k) - 97))) 75 (3 * p + k) (nI (i + k))) 73 p (nI (k + 1))).2 75 (3 * p + k') = _
          rw [ja_gA, if_neg (fun q => absurd q.1 (by decide)), ja_gA]
          by_cases z : k' = k
          · rw [if_pos ⟨rfl, by omega⟩, z]
          · rw [if_neg (fun q => z (by omega)), ja_gA, if_neg (fun q => absurd q.1 (by decide))]; exact (hr.2 k' (by omega)).2⟩⟩
      exact ⟨τ', f1, f2, mR_trans mr1 f3, f4, f5⟩
    · rw [if_neg c, if_pos rfl, lW_uniq (by omega) ha (fun _ => c)]
      exact ⟨τ, rfl, hm, mR_refl p τ, hr, rfl⟩
theorem m_line {L M i p : Nat} {d : Nat → Nat} {τ : jT} (hp : p < 10) (hi : i ≤ 76) (hm : mX L M i d τ) :
    ∃ τ', f_X11_readPlace_T (nI p) τ = some (0, τ') ∧ mR p τ τ' ∧ (lG L M d i = 0 → τ'.1 4177 = nI i) ∧ (¬ lG L M d i = 0 → mX L M (lEnd L M d i) d τ' ∧ aRow d i p (lA L M d i) τ' ∧ τ'.1 4181 = if lH L M d i = 1 then τ.1 4181 ||| (1 <<< (nI p &&& 31)) else τ.1 4181) := by
  have hw := lW_le L M d i
  have mr0 : mR p τ (gA τ 73 p 0) := by
    refine ⟨fun z _ _ _ => rfl, fun o a1 _ _ => funext fun j => by rw [ja_gA, if_neg (fun q => a1 q.1)], fun p' h => by rw [ja_gA, if_neg (fun q => h q.2)], fun j _ => ⟨by rw [ja_gA, if_neg (fun q => absurd q.1 (by decide))], by rw [ja_gA, if_neg (fun q => absurd q.1 (by decide))]⟩⟩
  have hm0 : mX L M i d (gA τ 73 p 0) := mX_o hm (fun z _ _ => rfl) (funext fun j => by rw [ja_gA, if_neg (fun q => absurd q.1 (by decide))])
  have ar0 : aRow d i p 0 (gA τ 73 p 0) := ⟨by rw [ja_gA, if_pos ⟨rfl, rfl⟩]; rfl, fun k' h => absurd h (Nat.not_lt_zero _)⟩
  -- the inn's sign
  have inn : ∀ (g : Nat) (τ1 : jT), g ≤ 3 → lG L M d i = g → mX L M (i + g) d τ1 → ∃ τ', f_X11_readPlace_T_b128 (nI p) τ1 = some (0, τ') ∧ mR p τ1 τ' ∧ mX L M (lEnd L M d i) d τ' ∧ τ'.2 = τ1.2 ∧ τ'.1 4181 = if lH L M d i = 1 then τ1.1 4181 ||| (1 <<< (nI p &&& 31)) else τ1.1 4181 := by
    intro g τ1 h3 hg hm1
    have ep := m_passes (a := 33) hm1 (by omega)
    have ep' : f_X11_passes_T 33 τ1 = _ := ep
    unfold f_X11_readPlace_T_b128
    rw [ep']
    unfold lEnd lH
    rw [hg]
    by_cases c : sIn L M d (i + g) 33 33
    · rw [if_pos c, if_pos c]
      simp only [bnd]
      rw [if_neg (show ¬ (1 : Int32) = 0 by decide)]
      refine ⟨_, rfl, mR_trans (mR_g (Or.inl rfl)) (mR_g (Or.inr (Or.inr rfl))), ?_, rfl, by rw [iT]; rfl⟩
      exact mX_o (mX_1 hm1 (by omega)) (fun z h1 h2 => if_neg (by omega)) rfl
    · rw [if_neg c, if_neg c]
      simp only [bnd]
      rw [iT]
      exact ⟨τ1, rfl, mR_refl p τ1, hm1, rfl, by rw [if_neg (by decide)]⟩
  unfold f_X11_readPlace_T
  rw [if_pos (ja_in (n := 10) (by omega) (by omega)), nI_clamp (by omega)]
  have ep := m_passes (a := 45) hm0 (by omega)
  have ep' : f_X11_passes_T 45 (gA τ 73 p 0) = _ := ep
  rw [ep']
  by_cases c : sIn L M d i 45 45
  · have hg : lG L M d i = 1 := by unfold lG; rw [if_pos c]
    have ha : lA L M d i = 0 := by unfold lA; rw [if_pos c]
    rw [if_pos c]
    simp only [bnd]
    rw [if_pos (show ¬ (1 : Int32) = 0 by decide)]
    obtain ⟨τ', e1, e2, e3, e4, e5⟩ := inn 1 _ (by omega) hg (mX_1 hm0 (by omega))
    refine ⟨τ', e1, mR_trans mr0 (mR_trans (mR_g (Or.inl rfl)) e2), fun q => by omega, fun _ => ⟨e3, ?_, e5⟩⟩
    unfold aRow
    rw [ha, e4]
    exact ar0
  · have hg : lG L M d i = lW L M d i := by unfold lG; rw [if_neg c]
    have ha : lA L M d i = lW L M d i := by unfold lA; rw [if_neg c]
    rw [if_neg c]
    simp only [bnd]
    rw [iNT]
    obtain ⟨τ1, f1, f2, f3, f4, f5⟩ := m_lets hp hi 3 0 1000 (gA τ 73 p 0) (by omega) (by omega) hm0 (fun k' h => absurd h (Nat.not_lt_zero _)) ar0
    rw [f1]
    unfold f_X11_readPlace_T_b111
    rw [if_pos (ja_in (n := 10) (by omega) (by omega)), nI_clamp (by omega), f4.1]
    by_cases z : lW L M d i = 0
    · rw [z, if_neg (show ¬ ¬ nI 0 = 0 from fun q => q rfl), m_fault f2.2.2.2.2.2.2.1, f2.2.2.2.2.2.1]
      simp only [bnd]
      unfold f_X11_readPlace_T_b128
      rw [m_passes0 (show ¬ (gs τ1 4177 (nI (i + lW L M d i))).1 4177 = -1 from ja_neg1 (by omega))]
      simp only [bnd]
      rw [iT]
      refine ⟨_, rfl, mR_trans mr0 (mR_trans f3 (mR_g (Or.inr (Or.inl rfl)))), fun _ => ?_, fun q => by omega⟩
      show nI (i + lW L M d i) = nI i
      rw [z]; rfl
    · rw [if_pos (nI_ne0 (by omega) (by omega))]
      obtain ⟨τ', e1, e2, e3, e4, e5⟩ := inn (lW L M d i) τ1 hw hg f2
      refine ⟨τ', e1, mR_trans mr0 (mR_trans f3 e2), fun q => by omega, fun _ => ⟨e3, ?_, ?_⟩⟩
      · unfold aRow
        rw [ha, e4]
        exact f4
      · rw [e5, f5]; rfl
