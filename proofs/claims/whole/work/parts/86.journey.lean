/-! ===== a journey is read, on both sides ===== -/
def aS (L : Nat) (d : Nat → Nat) : Nat → Nat
  | 0 => 0
  | p + 1 => aEnd L d (aS L d p) + 1
def kH (τ τ' : jT) : Prop := (∀ z, z ≠ 4176 → z ≠ 4177 → τ'.1 z = τ.1 z) ∧ ∀ o, o ≠ 81 → τ'.2 o = τ.2 o
theorem kH_trans {a b c : jT} (h1 : kH a b) (h2 : kH b c) : kH a c := ⟨fun z a1 a2 => (h2.1 z a1 a2).trans (h1.1 z a1 a2), fun o a1 => (h2.2 o a1).trans (h1.2 o a1)⟩
theorem kH_J {n : Nat} {a b : jT} (h : kJ n a b) : kH a b := ⟨h.1, h.2.1⟩
theorem kH_g {τ : jT} {z : Nat} {v : Int32} (hz : z = 4176 ∨ z = 4177) : kH τ (gs τ z v) := kH_J (kJ_g (n := 0) hz)
theorem j_bad {e : Nat} {x : Int32} {τ : jT} (he : e < 2 ^ 31) (hw : τ.1 4177 = nI e) : f_X11_journey_b70 x τ = some (-1 - nI e, τ) := by
  have hn : ¬ τ.1 4177 = -1 := by rw [hw]; exact ja_neg1 he
  have h89 : f_X11_journey_b89 x τ = some (-1 - nI e, τ) := by
    unfold f_X11_journey_b89
    rw [m_fine0 hn]
    simp only [bnd]
    rw [iNT, hw]
  unfold f_X11_journey_b70
  rw [m_fault0 hn]
  simp only [bnd]
  rw [h89]
  split <;> rfl
/-- the first n acts, as the model noted them -/
def jkI (L : Nat) (d : Nat → Nat) (n : Nat) (τ : jT) : Prop := ∀ p, p < n → aOk L d (aS L d p) ∧ τ.2 81 (3 * p) = nI (d (aS L d p)) ∧ (¬ d (aS L d p) = 100 → τ.2 81 (3 * p + 1) = aX L d (aS L d p)) ∧ (aTwo (d (aS L d p)) → τ.2 81 (3 * p + 2) = nI (d (aS L d p + 2) - 48))
theorem jk_add {L n : Nat} {d : Nat → Nat} {τ τ' : jT} (h : jkI L d n τ) (hk : kJ n τ τ') (h1 : aOk L d (aS L d n)) (h2 : τ'.2 81 (3 * n) = nI (d (aS L d n))) (h3 : ¬ d (aS L d n) = 100 → τ'.2 81 (3 * n + 1) = aX L d (aS L d n)) (h4 : aTwo (d (aS L d n)) → τ'.2 81 (3 * n + 2) = nI (d (aS L d n + 2) - 48)) : jkI L d (n + 1) τ' := by
  intro p hp
  by_cases z : p = n
  · rw [z]; exact ⟨h1, h2, h3, h4⟩
  · obtain ⟨a1, a2, a3, a4⟩ := h p (by omega)
    refine ⟨a1, by rw [hk.2.2 _ (by omega)]; exact a2, fun q => ?_, fun q => ?_⟩
    · rw [hk.2.2 _ (by omega)]; exact a3 q
    · rw [hk.2.2 _ (by omega)]; exact a4 q
theorem aOk_end {L i : Nat} {d : Nat → Nat} (h : aOk L d i) : aEnd L d i ≤ L ∧ aEnd L d i ≤ 60 ∧ i + 1 ≤ aEnd L d i := by
  obtain ⟨h1, h2, h3⟩ := h
  rcases h3 with ⟨k, a, b⟩ | k | ⟨k, a⟩ | ⟨k, a⟩
  · rw [aEnd_T k]
    obtain ⟨b1, b2, _, _⟩ := b
    omega
  · rw [aEnd_D k]; omega
  · rw [aEnd_Z k]
    obtain ⟨b1, b2, _, _⟩ := a
    omega
  · rw [aEnd_R k]
    have := nD_le (L := L) (M := 60) (d := d) (i := i + 1) (by omega) (by omega)
    omega
theorem x3 {n : Nat} (h : n ≤ 40) : (3 : Int32) * nI n = nI (3 * n) := by
  have : ∀ n, n < 41 → (3 : Int32) * nI n = nI (3 * n) := by decide
  exact this n (by omega)
theorem jp_parse {L : Nat} {d : Nat → Nat} {σ : jT} (h : bX L 60 d σ) : ∀ (m n fu fu' : Nat) (τ : jT), n + m = 31 → m < fu → m + 1 < fu' → 2 * n ≤ aS L d n → aS L d n ≤ L → aS L d n ≤ 60 → mX L 60 (aS L d n) d τ → jkI L d n τ → (∀ p, p < n → sIn L 60 d (aEnd L d (aS L d p)) 59 59) →
    ∃ v j, f_X1_inJourney_1_b17 fu (nI n) (gs σ 67 (nI (aS L d n))) = some (v, gs σ 67 j) ∧
      ((∃ e τ', e ≤ 80 ∧ v = nI e ∧ f_X11_journey_b39 fu' (nI n) 1 τ = some (-1 - nI e, τ') ∧ kH τ τ') ∨
       (v = -1 ∧ ∃ N τ', N < 31 ∧ aEnd L d (aS L d N) = L ∧ (∀ p, p < N → sIn L 60 d (aEnd L d (aS L d p)) 59 59) ∧ jkI L d (N + 1) τ' ∧ τ'.1 4177 = -1 ∧ f_X11_journey_b39 fu' (nI n) 1 τ = f_X11_journey_b89 (nI (N + 1)) τ' ∧ kH τ τ')) := by
  have hL80 := h.1
  intro m
  induction m with
  | zero =>
    intro n fu fu' τ hn hf hf' h2n hl hl2
    omega
  | succ m ih =>
    intro n fu fu' τ hn hf hf' h2n hl hl2 hm hok h59
    obtain ⟨fu, rfl⟩ : ∃ f', fu = f' + 1 := ⟨fu - 1, by omega⟩
    obtain ⟨fu', rfl⟩ : ∃ f', fu' = f' + 1 := ⟨fu' - 1, by omega⟩
    obtain ⟨-, -, -, e1, e2, e3, ew, -⟩ := id hm
    obtain ⟨v, j, τ1, f1, f2, f3, f4⟩ := ac_both (n := n) h (show n ≤ 40 by omega) hl2 hm
    rw [f_X1_inJourney_1_b17, if_neg (show ¬ (60 : Int32) ≤ nI n from fun c => by have := (ja_le (a := 60) (by omega) (by omega)).1 c; omega), f1]
    simp only [bnd]
    have eb : f_X11_journey_b39 (fu' + 1) (nI n) 1 τ = (f_X11_passes_T 59 τ1).bind fun q5 => f_X11_journey_b39 fu' (nI n + 1) q5.1 q5.2 := by
      rw [f_X11_journey_b39, if_neg (show ¬ (1 : Int32) = 0 by decide), m_fine ew]
      simp only [bnd]
      rw [if_neg (show ¬ (1 : Int32) = 0 by decide), x3 (show n ≤ 40 by omega), f2]
      simp only [bnd]
    rw [eb]
    obtain ⟨fu', rfl⟩ : ∃ f', fu' = f' + 1 := ⟨fu' - 1, by omega⟩
    rcases f4 with ⟨g1, rfl, rfl, g2, g3, g4, g5⟩ | ⟨rfl, he, hw⟩
    · obtain ⟨hE1, hE2, hE3⟩ := aOk_end g1
      rw [if_pos (show ¬ (1 : Int32) = 0 by decide)]
      have et := b_take (a := 59) h (show aEnd L d (aS L d n) ≤ 80 by omega) (by omega)
      have et' : f_X9_take 59 (gs σ 67 (nI (aEnd L d (aS L d n)))) = _ := et
      have ep := m_passes (a := 59) g2 (by omega)
      have ep' : f_X11_passes_T 59 τ1 = _ := ep
      have hadd : jkI L d (n + 1) τ1 := jk_add hok f3 g1 g3 g4 g5
      rw [et', ep']
      by_cases c : sIn L 60 d (aEnd L d (aS L d n)) 59 59
      · rw [if_pos c, if_pos c]
        simp only [bnd]
        rw [if_pos (show ¬ (1 : Int32) = 0 by decide), nS]
        have c1 := c.1
        have c2 := c.2.1
        have hS : aS L d (n + 1) = aEnd L d (aS L d n) + 1 := rfl
        obtain ⟨v, j, k1, k2⟩ := ih (n + 1) fu (fu' + 1) (gs τ1 4176 (nI (aEnd L d (aS L d n) + 1))) (by omega) (by omega) (by omega) (by omega) (by omega) (by omega) (by rw [hS]; exact mX_1 g2 (by omega)) hadd (fun p hp => by
          by_cases z : p = n
          · rw [z]; exact c
          · exact h59 p (by omega))
        rw [hS] at k1
        refine ⟨v, j, k1, ?_⟩
        have hfr : kH τ (gs τ1 4176 (nI (aEnd L d (aS L d n) + 1))) := kH_trans (kH_J f3) (kH_g (Or.inl rfl))
        rcases k2 with ⟨e, τ', b1, b2, b3, b4⟩ | ⟨b0, N, τ', b1, b2, b3, b4, b5, b6, b7⟩
        · exact Or.inl ⟨e, τ', b1, b2, b3, kH_trans hfr b4⟩
        · exact Or.inr ⟨b0, N, τ', b1, b2, b3, b4, b5, b6, kH_trans hfr b7⟩
      · rw [if_neg c, if_neg c]
        simp only [bnd]
        rw [iNT, c_rest (bX_at h (by omega)) hE1 hE2]
        simp only [bnd]
        rw [nS, f_X11_journey_b39, if_pos rfl]
        obtain ⟨-, -, -, y1, y2, y3, yw, -⟩ := id g2
        refine ⟨_, _, rfl, ?_⟩
        by_cases z : aEnd L d (aS L d n) = L
        · rw [if_pos z]
          refine Or.inr ⟨rfl, n, τ1, by omega, z, h59, hadd, yw, ?_, kH_J f3⟩
          unfold f_X11_journey_b70
          rw [y1, y3, if_pos ((ja_le (by omega) (by omega)).2 (by omega))]
        · rw [if_neg z]
          refine Or.inl ⟨_, gs τ1 4177 (nI (aEnd L d (aS L d n))), by omega, rfl, ?_, kH_trans (kH_J f3) (kH_g (Or.inr rfl))⟩
          have hb := j_bad (e := aEnd L d (aS L d n)) (x := nI (n + 1)) (τ := gs τ1 4177 (nI (aEnd L d (aS L d n)))) (by omega) rfl
          unfold f_X11_journey_b70 at hb ⊢
          rw [show (gs τ1 4177 (nI (aEnd L d (aS L d n)))).1 4174 = τ1.1 4174 from rfl, show (gs τ1 4177 (nI (aEnd L d (aS L d n)))).1 4176 = τ1.1 4176 from rfl, y1, y3, if_neg (show ¬ nI L ≤ nI (aEnd L d (aS L d n)) from fun c => by have := (ja_le (by omega) (by omega)).1 c; omega), m_fault0 (show ¬ (gs τ1 4177 (nI (aEnd L d (aS L d n)))).1 4177 = -1 from ja_neg1 (by omega))] at hb
          rw [y1, y3, if_neg (show ¬ nI L ≤ nI (aEnd L d (aS L d n)) from fun c => by have := (ja_le (by omega) (by omega)).1 c; omega), m_fault yw]
          exact hb
    · rw [if_neg (fun q => q rfl), c_pos (bX_at h (by omega)), m_passes0 (show ¬ τ1.1 4177 = -1 by rw [hw]; exact ja_neg1 (by omega))]
      simp only [bnd]
      rw [nS, f_X11_journey_b39, if_pos rfl]
      exact ⟨_, _, rfl, Or.inl ⟨j, τ1, by omega, rfl, j_bad (by omega) hw, kH_J f3⟩⟩
/-! ===== the acts are done ===== -/
theorem ja_all {n P Q L i : Nat} {d : Nat → Nat} {σ τ : jT} (h : rAll n P Q σ τ) (hk : aOk L d i) {x y x' y' : Int32} (hx : ¬ d i = 100 → x = aX L d i ∧ x' = aX L d i) (hy : aTwo (d i) → y = y') : jaB P Q (nI (d i)) (f_X10_act (nI (d i)) x y σ) (f_X11_act (nI (d i)) x' y' τ) σ τ := by
  obtain ⟨h1, h2, h3⟩ := hk
  rcases h3 with ⟨k, -, -⟩ | k | ⟨k, -⟩ | ⟨k, a⟩
  · obtain ⟨e1, e2⟩ := hx (aT_n k).2.1
    rw [e1, e2, hy k]
    rcases k with k | k | k | k <;> rw [k]
    · exact ja_m h _ _
    · exact ja_w h _ _
    · exact ja_l h _ _
    · exact ja_x h _ _
  · rw [k]; exact ja_d h x y x' y'
  · obtain ⟨e1, e2⟩ := hx (by omega)
    rw [e1, e2, k]
    exact ja_z h _ y y'
  · obtain ⟨e1, e2⟩ := hx (by omega)
    rw [e1, e2, aX_R k, k]
    exact ja_r h (nV_le a) y y'
theorem nD_end {L i E : Nat} {d : Nat → Nat} (h : sIn L 60 d E 59 59 ∨ E = L) : ¬ sIn L 60 d E 48 57 := by
  rintro ⟨a1, a2, a3, a4⟩
  rcases h with ⟨b1, b2, b3, b4⟩ | h <;> omega
/-- the class reads an act again -/
theorem c_args {L i : Nat} {d : Nat → Nat} {σ : jT} (h : bX L 60 d σ) (hk : aOk L d i) (he : sIn L 60 d (aEnd L d i) 59 59 ∨ aEnd L d i = L) :
    ∃ x y s1, f_X9_number (if d i = 114 then 2 else 1) (gs σ 67 (nI (i + 1))) = some (x, s1) ∧ f_X9_number 1 s1 = some (y, gs σ 67 (nI (aEnd L d i))) ∧ (¬ d i = 100 → x = aX L d i) ∧ (aTwo (d i) → y = nI (d (i + 2) - 48)) := by
  have hne := nD_end (i := i) he
  obtain ⟨hE1, hE2, hE3⟩ := aOk_end hk
  obtain ⟨h1, h2, h3⟩ := hk
  rcases h3 with ⟨k, a, b⟩ | k | ⟨k, a⟩ | ⟨k, a⟩
  · obtain ⟨t1, t2, t3⟩ := aT_n k
    rw [if_neg t1, c_num1 h (by omega), if_pos a]
    refine ⟨_, _, _, rfl, ?_, fun _ => (aX_N t1).symm, fun _ => rfl⟩
    rw [aEnd_T k, show i + 1 + 1 = i + 2 from rfl, c_num1 h (by omega), if_pos b]
  · rw [aEnd_D k] at hne ⊢
    rw [if_neg (by omega), c_num1 h (by omega), if_neg hne]
    refine ⟨_, -1, _, rfl, ?_, fun q => absurd k q, fun q => absurd k (aT_n q).2.1⟩
    rw [c_num1 h (by omega), if_neg hne]
  · rw [aEnd_Z k] at hne ⊢
    rw [if_neg (by omega), c_num1 h (by omega), if_pos a]
    refine ⟨_, -1, _, rfl, ?_, fun q => (aX_N (by omega)).symm, fun q => absurd k (aT_n q).2.2⟩
    rw [show i + 1 + 1 = i + 2 from rfl, c_num1 h (by omega), if_neg hne]
  · rw [aEnd_R k] at hne hE1 hE2 hE3 ⊢
    rw [if_pos k, c_num2 h (by omega), if_neg a]
    refine ⟨_, -1, _, rfl, ?_, fun q => (aX_R k).symm, fun q => absurd k (aT_n q).1⟩
    rw [c_num1 h (by omega), if_neg hne]
