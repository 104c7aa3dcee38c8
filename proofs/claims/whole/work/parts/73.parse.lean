/-! ===== THE ROADS are read, on both sides ===== -/
theorem lEnd_le {L M : Nat} {d : Nat → Nat} {i : Nat} (h1 : i ≤ L) (h2 : i ≤ M) : lEnd L M d i ≤ L ∧ lEnd L M d i ≤ M := by
  have hg : i + lG L M d i ≤ L ∧ i + lG L M d i ≤ M := by
    unfold lG
    by_cases c : sIn L M d i 45 45
    · rw [if_pos c]
      obtain ⟨c1, c2, _, _⟩ := c
      omega
    · rw [if_neg c]
      by_cases z : lW L M d i = 0
      · rw [z]; omega
      · obtain ⟨c1, c2, _, _⟩ := lW_all (L := L) (M := M) (d := d) (i := i) (k := lW L M d i - 1) (by omega)
        omega
  unfold lEnd lH
  by_cases c : sIn L M d (i + lG L M d i) 33 33
  · rw [if_pos c]
    obtain ⟨c1, c2, _, _⟩ := c
    omega
  · rw [if_neg c]; omega
def mF (τ τ' : jT) : Prop := (∀ z, z ≠ 4176 → z ≠ 4177 → z ≠ 4181 → τ'.1 z = τ.1 z) ∧ ∀ o, o ≠ 73 → o ≠ 74 → o ≠ 75 → τ'.2 o = τ.2 o
theorem mF_trans {a b c : jT} (h1 : mF a b) (h2 : mF b c) : mF a c := ⟨fun z a1 a2 a3 => (h2.1 z a1 a2 a3).trans (h1.1 z a1 a2 a3), fun o a1 a2 a3 => (h2.2 o a1 a2 a3).trans (h1.2 o a1 a2 a3)⟩
theorem mF_R {p : Nat} {a b : jT} (h : mR p a b) : mF a b := ⟨h.1, h.2.1⟩
theorem mF_g {τ : jT} {z : Nat} {v : Int32} (hz : z = 4176 ∨ z = 4177 ∨ z = 4181) : mF τ (gs τ z v) := mF_R (mR_g (p := 0) hz)
theorem m_bad {e k : Nat} {τ : jT} (he : e < 2 ^ 31) (hk : 1 ≤ k) (hk2 : k ≤ 20) (hw : τ.1 4177 = nI e) : f_X11_roads_b79 (nI k) τ = some (-1 - nI e, τ) := by
  have hn : ¬ τ.1 4177 = -1 := by rw [hw]; exact ja_neg1 he
  have h98 : f_X11_roads_b98 (nI k) τ = some (-1 - nI e, τ) := by
    unfold f_X11_roads_b98
    rw [show (1000 : Nat) = 999 + 1 from rfl, f_X11_roads_b100, if_neg (show ¬ nI k ≤ 0 from fun c => by have := (ja_le (b := 0) (by omega) (by omega)).1 c; omega), m_fine0 hn]
    simp only [bnd]
    rw [iT]
    unfold f_X11_roads_b168
    rw [m_fine0 hn]
    simp only [bnd]
    rw [iNT, hw]
  unfold f_X11_roads_b79
  rw [m_fault0 hn]
  simp only [bnd]
  rw [h98]
  by_cases c : τ.1 4174 ≤ τ.1 4176
  · rw [if_pos c]
  · rw [if_neg c]
def rdOk (L : Nat) (d : Nat → Nat) (N : Nat) (τ : jT) : Prop := (∀ p, p < N → ¬ lG L 76 d (lS L 76 d p) = 0) ∧ (∀ p, p < N → aRow d (lS L 76 d p) p (lA L 76 d (lS L 76 d p)) τ) ∧ rep (τ.1 4181) (fun p => p < N ∧ lH L 76 d (lS L 76 d p) = 1)
theorem rd_add {L i N : Nat} {d : Nat → Nat} {τ τ' : jT} (hN : N < 10) (hi : lS L 76 d N = i) (h : rdOk L d N τ) (hr : mR N τ τ') (hg : ¬ lG L 76 d i = 0) (ha : aRow d i N (lA L 76 d i) τ') (h81 : τ'.1 4181 = if lH L 76 d i = 1 then τ.1 4181 ||| (1 <<< (nI N &&& 31)) else τ.1 4181) : rdOk L d (N + 1) τ' := by
  subst hi
  refine ⟨fun p hp => ?_, fun p hp => ?_, ?_⟩
  · by_cases z : p = N
    · rw [z]; exact hg
    · exact h.1 p (by omega)
  · by_cases z : p = N
    · rw [z]; exact ha
    · obtain ⟨a1, a2⟩ := h.2.1 p (by omega)
      have h3 : lA L 76 d (lS L 76 d p) ≤ 3 := by
        unfold lA
        split
        · omega
        · exact lW_le _ _ _ _
      refine ⟨by rw [hr.2.2.1 p z]; exact a1, fun k' hk' => ?_⟩
      obtain ⟨b1, b2⟩ := hr.2.2.2 (3 * p + k') (by omega)
      rw [b1, b2]; exact a2 k' hk'
  · by_cases z : lH L 76 d (lS L 76 d N) = 1
    · rw [h81, if_pos z]
      refine rep_iff (rep_or h.2.2 (rep_bit hN)) (fun p => ⟨?_, ?_⟩)
      · rintro (w | w)
        · exact ⟨by omega, w.2⟩
        · rw [w]; exact ⟨by omega, z⟩
      · rintro ⟨w1, w2⟩
        by_cases y : p = N
        · exact Or.inr y
        · exact Or.inl ⟨by omega, w2⟩
    · rw [h81, if_neg z]
      refine rep_iff h.2.2 (fun p => ⟨fun w => ⟨by omega, w.2⟩, fun w => ⟨?_, w.2⟩⟩)
      by_cases y : p = N
      · rw [y] at w; exact absurd w.2 z
      · omega
theorem rd_parse {L : Nat} {d : Nat → Nat} {σ : jT} (h : bX L 76 d σ) : ∀ (m n fu fu' : Nat) (τ : jT), n + m = 10 → m < fu → m + 1 < fu' → lS L 76 d n ≤ L → lS L 76 d n ≤ 76 → mX L 76 (lS L 76 d n) d τ → rdOk L d n τ → (∀ p, p < n → sIn L 76 d (lEnd L 76 d (lS L 76 d p)) 59 59) →
    ∃ v j, f_X1_inRoadLines_1_b8 fu (nI n) (gs σ 67 (nI (lS L 76 d n))) = some (v, gs σ 67 j) ∧
      ((∃ e τ', e ≤ 80 ∧ v = nI e ∧ f_X11_roads_b33 fu' (nI n) 1 τ = some (-1 - nI e, τ') ∧ mF τ τ') ∨
       (v = -1 ∧ ∃ N τ', N < 10 ∧ lEnd L 76 d (lS L 76 d N) = L ∧ (∀ p, p < N → sIn L 76 d (lEnd L 76 d (lS L 76 d p)) 59 59) ∧ rdOk L d (N + 1) τ' ∧ τ'.1 4177 = -1 ∧ f_X11_roads_b33 fu' (nI n) 1 τ = f_X11_roads_b98 (nI (N + 1)) τ' ∧ mF τ τ')) := by
  have hL80 := h.1
  intro m
  induction m with
  | zero =>
    intro n fu fu' τ hn hf hf' hl hl2 hm hok h59
    obtain ⟨fu, rfl⟩ : ∃ f', fu = f' + 1 := ⟨fu - 1, by omega⟩
    obtain ⟨fu', rfl⟩ : ∃ f', fu' = f' + 1 := ⟨fu' - 1, by omega⟩
    obtain ⟨fu', rfl⟩ : ∃ f', fu' = f' + 1 := ⟨fu' - 1, by omega⟩
    obtain rfl : n = 10 := by omega
    rw [f_X1_inRoadLines_1_b8, if_pos (show (10 : Int32) ≤ nI 10 by decide), c_pos (bX_at h (by omega))]
    simp only [bnd]
    refine ⟨_, _, rfl, Or.inl ⟨lS L 76 d 10, gs τ 4177 (nI (lS L 76 d 10)), by omega, rfl, ?_, mF_g (Or.inr (Or.inl rfl))⟩⟩
    obtain ⟨-, -, -, e1, e2, e3, ew, -⟩ := id hm
    rw [f_X11_roads_b33, if_neg (show ¬ (1 : Int32) = 0 by decide), m_fine ew]
    simp only [bnd]
    rw [if_neg (show ¬ (1 : Int32) = 0 by decide), if_neg (show ¬ ¬ nI 10 = 10 from fun q => q rfl), m_fault ew, e3]
    simp only [bnd]
    unfold f_X11_roads_b66
    rw [m_passes0 (show ¬ (gs τ 4177 (nI (lS L 76 d 10))).1 4177 = -1 from ja_neg1 (by omega))]
    simp only [bnd]
    rw [nS, f_X11_roads_b33, if_pos rfl]
    exact m_bad (by omega) (by omega) (by omega) rfl
  | succ m ih =>
    intro n fu fu' τ hn hf hf' hl hl2 hm hok h59
    obtain ⟨fu, rfl⟩ : ∃ f', fu = f' + 1 := ⟨fu - 1, by omega⟩
    obtain ⟨fu', rfl⟩ : ∃ f', fu' = f' + 1 := ⟨fu' - 1, by omega⟩
    obtain ⟨-, -, -, e1, e2, e3, ew, -⟩ := id hm
    rw [f_X1_inRoadLines_1_b8, if_neg (show ¬ (10 : Int32) ≤ nI n from nI_ge (b := 10) (by omega) (by omega)), c_line h hl2]
    simp only [bnd]
    obtain ⟨τ1, f1, f2, f3, f4⟩ := m_line (p := n) (show n < 10 by omega) hl2 hm
    have eb : f_X11_roads_b33 (fu' + 1) (nI n) 1 τ = f_X11_roads_b66 (f_X11_roads_b33 fu') (nI n) τ1 := by
      rw [f_X11_roads_b33, if_neg (show ¬ (1 : Int32) = 0 by decide), m_fine ew]
      simp only [bnd]
      rw [if_neg (show ¬ (1 : Int32) = 0 by decide), if_pos (show ¬ nI n = 10 from fun q => by have := (ja_eq (b := 10) (by omega) (by omega)).1 q; omega), f1]
      simp only [bnd]
    rw [eb]
    obtain ⟨fu', rfl⟩ : ∃ f', fu' = f' + 1 := ⟨fu' - 1, by omega⟩
    unfold f_X11_roads_b66
    by_cases cg : lG L 76 d (lS L 76 d n) = 0
    · rw [if_pos cg, if_pos cg, if_neg (fun q => q rfl), c_pos (bX_at h (by omega))]
      simp only [bnd]
      have hw := f3 cg
      rw [m_passes0 (show ¬ τ1.1 4177 = -1 by rw [hw]; exact ja_neg1 (by omega))]
      simp only [bnd]
      rw [nS, f_X11_roads_b33, if_pos rfl]
      exact ⟨_, _, rfl, Or.inl ⟨lS L 76 d n, τ1, by omega, rfl, m_bad (by omega) (by omega) (by omega) hw, mF_R f2⟩⟩
    · obtain ⟨g1, g2, g3⟩ := f4 cg
      obtain ⟨hE1, hE2⟩ := lEnd_le (d := d) hl hl2
      rw [if_neg cg, if_neg cg, if_pos (show ¬ (1 : Int32) = 0 by decide)]
      have et := b_take (a := 59) h (show lEnd L 76 d (lS L 76 d n) ≤ 80 by omega) (by omega)
      have et' : f_X9_take 59 (gs σ 67 (nI (lEnd L 76 d (lS L 76 d n)))) = _ := et
      have ep := m_passes (a := 59) g1 (by omega)
      have ep' : f_X11_passes_T 59 τ1 = _ := ep
      have hadd : rdOk L d (n + 1) τ1 := rd_add (show n < 10 by omega) rfl hok f2 cg g2 g3
      rw [et', ep']
      by_cases c : sIn L 76 d (lEnd L 76 d (lS L 76 d n)) 59 59
      · rw [if_pos c, if_pos c]
        simp only [bnd]
        rw [if_pos (show ¬ (1 : Int32) = 0 by decide), nS]
        have c1 := c.1
        have c2 := c.2.1
        have hS : lS L 76 d (n + 1) = lEnd L 76 d (lS L 76 d n) + 1 := rfl
        have hok2 : rdOk L d (n + 1) (gs τ1 4176 (nI (lEnd L 76 d (lS L 76 d n) + 1))) := hadd
        obtain ⟨v, j, k1, k2⟩ := ih (n + 1) fu (fu' + 1) (gs τ1 4176 (nI (lEnd L 76 d (lS L 76 d n) + 1))) (by omega) (by omega) (by omega) (by omega) (by omega) (by rw [hS]; exact mX_1 g1 (by omega)) hok2 (fun p hp => by
          by_cases z : p = n
          · rw [z]; exact c
          · exact h59 p (by omega))
        rw [hS] at k1
        refine ⟨v, j, k1, ?_⟩
        have hfr : mF τ (gs τ1 4176 (nI (lEnd L 76 d (lS L 76 d n) + 1))) := mF_trans (mF_R f2) (mF_g (Or.inl rfl))
        rcases k2 with ⟨e, τ', b1, b2, b3, b4⟩ | ⟨b0, N, τ', b1, b2, b3, b4, b5, b6, b7⟩
        · exact Or.inl ⟨e, τ', b1, b2, b3, mF_trans hfr b4⟩
        · exact Or.inr ⟨b0, N, τ', b1, b2, b3, b4, b5, b6, mF_trans hfr b7⟩
      · rw [if_neg c, if_neg c]
        simp only [bnd]
        rw [iNT, c_rest (bX_at h (by omega)) hE1 hE2]
        simp only [bnd]
        rw [nS, f_X11_roads_b33, if_pos rfl]
        obtain ⟨-, -, -, y1, y2, y3, yw, -⟩ := id g1
        refine ⟨_, _, rfl, ?_⟩
        by_cases z : lEnd L 76 d (lS L 76 d n) = L
        · rw [if_pos z]
          refine Or.inr ⟨rfl, n, τ1, by omega, z, h59, hadd, yw, ?_, mF_R f2⟩
          unfold f_X11_roads_b79
          rw [y1, y3, if_pos ((ja_le (by omega) (by omega)).2 (by omega))]
        · rw [if_neg z]
          refine Or.inl ⟨_, gs τ1 4177 (nI (lEnd L 76 d (lS L 76 d n))), by omega, rfl, ?_, mF_trans (mF_R f2) (mF_g (Or.inr (Or.inl rfl)))⟩
          have hb := m_bad (e := lEnd L 76 d (lS L 76 d n)) (k := n + 1) (τ := gs τ1 4177 (nI (lEnd L 76 d (lS L 76 d n)))) (by omega) (by omega) (by omega) rfl
          unfold f_X11_roads_b79 at hb ⊢
          rw [show (gs τ1 4177 (nI (lEnd L 76 d (lS L 76 d n)))).1 4174 = τ1.1 4174 from rfl, show (gs τ1 4177 (nI (lEnd L 76 d (lS L 76 d n)))).1 4176 = τ1.1 4176 from rfl, y1, y3, if_neg (show ¬ nI L ≤ nI (lEnd L 76 d (lS L 76 d n)) from fun c => by have := (ja_le (by omega) (by omega)).1 c; omega), m_fault0 (show ¬ (gs τ1 4177 (nI (lEnd L 76 d (lS L 76 d n)))).1 4177 = -1 from ja_neg1 (by omega))] at hb
          rw [y1, y3, if_neg (show ¬ nI L ≤ nI (lEnd L 76 d (lS L 76 d n)) from fun c => by have := (ja_le (by omega) (by omega)).1 c; omega), m_fault yw]
          exact hb
