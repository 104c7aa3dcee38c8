/-! ===== the model admits riders; riders ===== -/
def amI (L : Nat) (d : Nat → Nat) (P Q p : Nat) (τ0 τ : jT) : Prop := τ.1 4165 = nI (Q + p) ∧ (∀ i, i ≠ 4165 → τ.1 i = τ0.1 i) ∧ (∀ o, o ≠ 66 → o ≠ 69 → o ≠ 70 → τ.2 o = τ0.2 o) ∧ (∀ z, z < Q → τ.2 69 z = τ0.2 69 z) ∧ (∀ z, z < 10 * Q → τ.2 70 z = τ0.2 70 z) ∧
  (∀ z, (∀ q, q < p → z ≠ 4 + (Q + q) ∧ z ≠ 10 + (Q + q) ∧ z ≠ 16 + (Q + q) ∧ z ≠ 22 + (Q + q)) → τ.2 66 z = τ0.2 66 z) ∧
  ∀ q, q < p → τ.2 69 (Q + q) = nI (nV L 76 d (rSt L d P q)) ∧ (∀ k, k < P → τ.2 70 (10 * (Q + q) + k) = nI (vF L d P q k)) ∧ τ.2 66 (4 + (Q + q)) = 0 ∧ τ.2 66 (10 + (Q + q)) = 0 ∧ τ.2 66 (16 + (Q + q)) = -1 ∧ τ.2 66 (22 + (Q + q)) = nI (Q + q)
theorem am_v {L P Q p : Nat} {d : Nat → Nat} {τ0 : jT} {x1 : Int32} (hP : P ≤ 10) (hr : Q + p < 6) (p2 : τ0.1 4161 = nI P) (hk : ∀ k, k < P → τ0.2 76 (11 * p + 1 + k) = nI (vF L d P p k)) (k126 : Int32 → Int32 → jT → Option (Int32 × jT)) : ∀ (m k fu : Nat) (τ : jT), k + m = P → m < fu → amI L d P Q p τ0 τ → τ.2 69 (Q + p) = nI (nV L 76 d (rSt L d P p)) → (∀ k', k' < k → τ.2 70 (10 * (Q + p) + k') = nI (vF L d P p k')) →
    ∃ τ', f_X11_riders_b156 k126 fu x1 (nI p) (nI (11 * p)) (nI k) τ = k126 x1 (nI (p + 1)) τ' ∧ amI L d P Q (p + 1) τ0 τ' := by
  intro m
  induction m with
  | zero =>
    intro k fu τ hm hf hi h69 h70
    obtain ⟨fu, rfl⟩ : ∃ f', fu = f' + 1 := ⟨fu - 1, by omega⟩
    obtain rfl : k = P := by omega
    obtain ⟨h1, h2, h3, h4, h5, h6, h7⟩ := id hi
    have e4 : (4 : Int32) + nI (Q + p) = nI (4 + (Q + p)) := ja_add 4 _
    have e10 : (10 : Int32) + nI (Q + p) = nI (10 + (Q + p)) := ja_add 10 _
    have e16 : (16 : Int32) + nI (Q + p) = nI (16 + (Q + p)) := ja_add 16 _
    have e22 : (22 : Int32) + nI (Q + p) = nI (22 + (Q + p)) := ja_add 22 _
    rw [f_X11_riders_b156, h2 4161 (by decide), p2, if_pos ((ja_le (by omega) (by omega)).2 (Nat.le_refl _)), h1, e4, e10, e16, e22, if_pos (ja_in (n := 28) (by omega) (by omega)), if_pos (ja_in (n := 28) (by omega) (by omega)), if_pos (ja_in (n := 28) (by omega) (by omega)), if_pos (ja_in (n := 28) (by omega) (by omega)), nI_clamp (by omega), nI_clamp (by omega), nI_clamp (by omega), nI_clamp (by omega), nS, nS]
    have r66 : ∀ z, (gA (gA (gA (gA τ 66 (4 + (Q + p)) 0) 66 (10 + (Q + p)) 0) 66 (16 + (Q + p)) (-1)) 66 (22 + (Q + p)) (nI (Q + p))).2 66 z = if z = 22 + (Q + p) then nI (Q + p) else if z = 16 + (Q + p) then -1 else if z = 10 + (Q + p) then 0 else if z = 4 + (Q + p) then 0 else τ.2 66 z := fun z => by
      rw [ja_gA]
      by_cases c1 : z = 22 + (Q + p)
      · rw [if_pos ⟨rfl, c1⟩, if_pos c1]
      · rw [if_neg (fun q => c1 q.2), if_neg c1, ja_gA]
        by_cases c2 : z = 16 + (Q + p)
        · rw [if_pos ⟨rfl, c2⟩, if_pos c2]
        · rw [if_neg (fun q => c2 q.2), if_neg c2, ja_gA]
          by_cases c3 : z = 10 + (Q + p)
          · rw [if_pos ⟨rfl, c3⟩, if_pos c3]
          · rw [if_neg (fun q => c3 q.2), if_neg c3, ja_gA]
            by_cases c4 : z = 4 + (Q + p)
            · rw [if_pos ⟨rfl, c4⟩, if_pos c4]
            · rw [if_neg (fun q => c4 q.2), if_neg c4]
    have rO : ∀ o, o ≠ 66 → (gA (gA (gA (gA τ 66 (4 + (Q + p)) 0) 66 (10 + (Q + p)) 0) 66 (16 + (Q + p)) (-1)) 66 (22 + (Q + p)) (nI (Q + p))).2 o = τ.2 o := fun o ho => funext fun z => by
      rw [ja_gA, if_neg (fun q => ho q.1), ja_gA, if_neg (fun q => ho q.1), ja_gA, if_neg (fun q => ho q.1), ja_gA, if_neg (fun q => ho q.1)]
    refine ⟨_, rfl, rfl, fun i a1 => (if_neg a1).trans (h2 i a1), fun o a1 a2 a3 => (rO o a1).trans (h3 o a1 a2 a3), fun z hz => ?_, fun z hz => ?_, fun z hz => ?_, fun q hq => ?_⟩
    · exact (congrFun (rO 69 (by decide)) z).trans (h4 z hz)
    · exact (congrFun (rO 70 (by decide)) z).trans (h5 z hz)
    · refine (r66 z).trans ?_
      obtain ⟨b1, b2, b3, b4⟩ := hz p (by omega)
      rw [if_neg b4, if_neg b3, if_neg b2, if_neg b1]
      exact h6 z (fun q hq => hz q (by omega))
    · by_cases c : q = p
      · subst c
        refine ⟨(congrFun (rO 69 (by decide)) _).trans h69, fun k hk2 => (congrFun (rO 70 (by decide)) _).trans (h70 k hk2), (r66 _).trans ?_, (r66 _).trans ?_, (r66 _).trans ?_, (r66 _).trans (if_pos rfl)⟩
        · rw [if_neg (by omega), if_neg (by omega), if_neg (by omega), if_pos rfl]
        · rw [if_neg (by omega), if_neg (by omega), if_pos rfl]
        · rw [if_neg (by omega), if_pos rfl]
      · obtain ⟨b0, b1, b2, b3, b4, b5⟩ := h7 q (by omega)
        refine ⟨(congrFun (rO 69 (by decide)) _).trans b0, fun k hk2 => (congrFun (rO 70 (by decide)) _).trans (b1 k hk2), (r66 _).trans ?_, (r66 _).trans ?_, (r66 _).trans ?_, (r66 _).trans ?_⟩
        · rw [if_neg (by omega), if_neg (by omega), if_neg (by omega), if_neg (by omega)]; exact b2
        · rw [if_neg (by omega), if_neg (by omega), if_neg (by omega), if_neg (by omega)]; exact b3
        · rw [if_neg (by omega), if_neg (by omega), if_neg (by omega), if_neg (by omega)]; exact b4
        · rw [if_neg (by omega), if_neg (by omega), if_neg (by omega), if_neg (by omega)]; exact b5
  | succ m ih =>
    intro k fu τ hm hf hi h69 h70
    obtain ⟨fu, rfl⟩ : ∃ f', fu = f' + 1 := ⟨fu - 1, by omega⟩
    obtain ⟨h1, h2, h3, h4, h5, h6, h7⟩ := id hi
    have ix : (10 : Int32) * nI (Q + p) + nI k = nI (10 * (Q + p) + k) := by
      have : ∀ r, r < 6 → (10 : Int32) * nI r = nI (10 * r) := by decide
      rw [this _ hr]; exact ja_add _ _
    rw [f_X11_riders_b156, h2 4161 (by decide), p2, if_neg (fun c => by have := (ja_le (by omega) (by omega)).1 c; omega), h1, ix11 (by omega) (by omega), ix, if_pos (ja_in (n := 66) (by omega) (by omega)), if_pos (ja_in (n := 60) (by omega) (by omega)), nI_clamp (by omega), nI_clamp (by omega), h3 76 (by decide) (by decide) (by decide), hk k (by omega), nS]
    have r70 : ∀ z, (gA τ 70 (10 * (Q + p) + k) (nI (vF L d P p k))).2 70 z = if z = 10 * (Q + p) + k then nI (vF L d P p k) else τ.2 70 z := fun z => by
      rw [ja_gA]
      by_cases c : z = 10 * (Q + p) + k
      · rw [if_pos ⟨rfl, c⟩, if_pos c]
      · rw [if_neg (fun q => c q.2), if_neg c]
    have rO : ∀ o, o ≠ 70 → (gA τ 70 (10 * (Q + p) + k) (nI (vF L d P p k))).2 o = τ.2 o := fun o ho => funext fun z => by rw [ja_gA, if_neg (fun q => ho q.1)]
    refine ih (k + 1) fu _ (by omega) (by omega) ⟨h1, h2, fun o a1 a2 a3 => (rO o a3).trans (h3 o a1 a2 a3), fun z hz => (congrFun (rO 69 (by decide)) z).trans (h4 z hz), fun z hz => ?_, fun z hz => (congrFun (rO 66 (by decide)) z).trans (h6 z hz), fun q hq => ?_⟩ ((congrFun (rO 69 (by decide)) _).trans h69) (fun k' hk' => ?_)
    · rw [r70, if_neg (by omega)]; exact h5 z hz
    · obtain ⟨b0, b1, b2, b3, b4, b5⟩ := h7 q hq
      refine ⟨(congrFun (rO 69 (by decide)) _).trans b0, fun k' hk' => ?_, (congrFun (rO 66 (by decide)) _).trans b2, (congrFun (rO 66 (by decide)) _).trans b3, (congrFun (rO 66 (by decide)) _).trans b4, (congrFun (rO 66 (by decide)) _).trans b5⟩
      rw [r70, if_neg (by omega)]; exact b1 k' hk'
    · rw [r70]
      by_cases c : k' = k
      · rw [if_pos (by omega), c]
      · rw [if_neg (by omega)]; exact h70 k' (by omega)
theorem am_all {L P Q N : Nat} {d : Nat → Nat} {τ0 : jT} (hP : P ≤ 10) (hQN : Q + N < 6) (p2 : τ0.1 4161 = nI P) (hrk : rkI L d P (N + 1) τ0) : ∀ (m p fu : Nat) (τ : jT), p + m = N + 1 → m < fu → amI L d P Q p τ0 τ → ∃ τ', f_X11_riders_b126 fu (nI (N + 1)) (nI p) τ = some (nI (N + 1), gs (gs τ' 4189 0) 4208 (τ'.1 4208 + 1)) ∧ amI L d P Q (N + 1) τ0 τ' := by
  intro m
  induction m with
  | zero =>
    intro p fu τ hp hf hi
    obtain ⟨fu, rfl⟩ : ∃ f', fu = f' + 1 := ⟨fu - 1, by omega⟩
    obtain rfl : p = N + 1 := by omega
    rw [f_X11_riders_b126, if_pos ((ja_le (by omega) (by omega)).2 (Nat.le_refl _))]
    exact ⟨τ, rfl, hi⟩
  | succ m ih =>
    intro p fu τ hp hf hi
    obtain ⟨fu, rfl⟩ : ∃ f', fu = f' + 1 := ⟨fu - 1, by omega⟩
    obtain ⟨h1, h2, h3, h4, h5, h6, h7⟩ := id hi
    obtain ⟨k1, k2, k3⟩ := hrk p (by omega)
    have ix : (11 : Int32) * nI p = nI (11 * p) := by
      have : ∀ n, n < 6 → (11 : Int32) * nI n = nI (11 * n) := by decide
      exact this p (by omega)
    rw [f_X11_riders_b126, if_neg (fun c => by have := (ja_le (by omega) (by omega)).1 c; omega), ix, if_pos (ja_in (n := 66) (by omega) (by omega)), h1, if_pos (ja_in (n := 6) (by omega) (by omega)), nI_clamp (by omega), nI_clamp (by omega), h3 76 (by decide) (by decide) (by decide), k2]
    have rO : ∀ o, o ≠ 69 → (gA τ 69 (Q + p) (nI (nV L 76 d (rSt L d P p)))).2 o = τ.2 o := fun o ho => funext fun z => by rw [ja_gA, if_neg (fun q => ho q.1)]
    have r69 : ∀ z, (gA τ 69 (Q + p) (nI (nV L 76 d (rSt L d P p)))).2 69 z = if z = Q + p then nI (nV L 76 d (rSt L d P p)) else τ.2 69 z := fun z => by
      rw [ja_gA]
      by_cases c : z = Q + p
      · rw [if_pos ⟨rfl, c⟩, if_pos c]
      · rw [if_neg (fun q => c q.2), if_neg c]
    obtain ⟨τ1, e1, e2⟩ := am_v (x1 := nI (N + 1)) hP (show Q + p < 6 by omega) p2 (fun k hk => k3 k hk) (f_X11_riders_b126 fu) P 0 1000 (gA τ 69 (Q + p) (nI (nV L 76 d (rSt L d P p)))) (by omega) (by omega) ⟨h1, h2, fun o a1 a2 a3 => (rO o a2).trans (h3 o a1 a2 a3), fun z hz => by rw [r69, if_neg (by omega)]; exact h4 z hz, fun z hz => (congrFun (rO 70 (by decide)) z).trans (h5 z hz), fun z hz => (congrFun (rO 66 (by decide)) z).trans (h6 z hz), fun q hq => by
        obtain ⟨b0, b1, b2, b3, b4, b5⟩ := h7 q hq
        refine ⟨by rw [r69, if_neg (by omega)]; exact b0, fun k' hk' => (congrFun (rO 70 (by decide)) _).trans (b1 k' hk'), (congrFun (rO 66 (by decide)) _).trans b2, (congrFun (rO 66 (by decide)) _).trans b3, (congrFun (rO 66 (by decide)) _).trans b4, (congrFun (rO 66 (by decide)) _).trans b5⟩⟩ (by rw [r69, if_pos rfl]) (fun k' h => absurd h (Nat.not_lt_zero _))
    have e1' : f_X11_riders_b156 (f_X11_riders_b126 fu) 1000 (nI (N + 1)) (nI p) (nI (11 * p)) 0 (gA τ 69 (Q + p) (nI (nV L 76 d (rSt L d P p)))) = _ := e1
    rw [e1']
    exact ih (p + 1) fu τ1 (by omega) (by omega) e2
theorem coreMt_of3 {τ τ' : jT} (h1 : ∀ i, i ≠ 4169 → i ≠ 4172 → i < 4174 ∨ 4177 < i → τ'.1 i = τ.1 i) (h2 : ∀ o, o ≠ 76 → τ'.2 o = τ.2 o) : coreMt τ' = coreMt τ := by
  unfold coreMt
  rw [h1 4161 (by decide) (by decide) (by decide), h1 4164 (by decide) (by decide) (by decide), h1 4165 (by decide) (by decide) (by decide), h1 4184 (by decide) (by decide) (by decide), h1 4189 (by decide) (by decide) (by decide), h1 4208 (by decide) (by decide) (by decide), h1 4171 (by decide) (by decide) (by decide),
    h2 67 (by decide), h2 68 (by decide), h2 69 (by decide), h2 70 (by decide), h2 66 (by decide), h2 77 (by decide), h2 79 (by decide), h2 92 (by decide), h2 93 (by decide), h2 94 (by decide), h2 72 (by decide)]
