/-! ===== THE ROADS are laid ===== -/
theorem ln_let {L M : Nat} {d : Nat → Nat} {i k : Nat} (h : k < lA L M d i) : 97 ≤ d (i + k) ∧ d (i + k) ≤ 106 ∧ i + k < L := by
  unfold lA at h
  by_cases c : sIn L M d i 45 45
  · rw [if_pos c] at h; omega
  · rw [if_neg c] at h
    obtain ⟨_, c2, c3, c4⟩ := lW_all h
    exact ⟨c3, c4, c2⟩
theorem lA_le (L M : Nat) (d : Nat → Nat) (i : Nat) : lA L M d i ≤ 3 ∧ lA L M d i ≤ lG L M d i := by
  have := lW_le L M d i
  unfold lA lG
  by_cases c : sIn L M d i 45 45
  · rw [if_pos c, if_pos c]; omega
  · rw [if_neg c, if_neg c]; omega
theorem ln_dash {L M : Nat} {d : Nat → Nat} {i k : Nat} (h1 : lA L M d i ≤ k) (h2 : k < lG L M d i) : d (i + k) = 45 ∧ i + k < L := by
  unfold lA at h1
  unfold lG at h2
  by_cases c : sIn L M d i 45 45
  · rw [if_pos c] at h1 h2
    obtain rfl : k = 0 := by omega
    obtain ⟨_, c2, c3, c4⟩ := c
    show d i = 45 ∧ i < L
    exact ⟨by omega, c2⟩
  · rw [if_neg c] at h1 h2; omega
theorem lH_le (L M : Nat) (d : Nat → Nat) (i : Nat) : lH L M d i = 0 ∨ lH L M d i = 1 := by
  unfold lH
  by_cases c : sIn L M d (i + lG L M d i) 33 33
  · rw [if_pos c]; exact Or.inr rfl
  · rw [if_neg c]; exact Or.inl rfl
theorem ln_inn {L M : Nat} {d : Nat → Nat} {i : Nat} (h : lH L M d i = 1) : d (i + lG L M d i) = 33 ∧ i + lG L M d i < L := by
  unfold lH at h
  by_cases c : sIn L M d (i + lG L M d i) 33 33
  · obtain ⟨_, c2, c3, c4⟩ := c
    exact ⟨by omega, c2⟩
  · rw [if_neg c] at h; omega
/-- the signs of a line -/
theorem ln_all {L M : Nat} {d : Nat → Nat} {i j : Nat} (h1 : i ≤ j) (h2 : j < lEnd L M d i) : j < L ∧ ((j < i + lA L M d i ∧ 97 ≤ d j ∧ d j ≤ 106) ∨ (i + lA L M d i ≤ j ∧ (d j = 45 ∨ d j = 33))) := by
  obtain ⟨k, rfl⟩ := Nat.exists_eq_add_of_le h1
  unfold lEnd at h2
  have hA := lA_le L M d i
  by_cases c : k < lA L M d i
  · obtain ⟨a1, a2, a3⟩ := ln_let c
    exact ⟨a3, Or.inl ⟨by omega, a1, a2⟩⟩
  · by_cases c2 : k < lG L M d i
    · obtain ⟨a1, a2⟩ := ln_dash (by omega) c2
      exact ⟨a2, Or.inr ⟨by omega, Or.inl a1⟩⟩
    · have hh : lH L M d i = 1 := by
        rcases lH_le L M d i with w | w
        · omega
        · exact w
      obtain ⟨a1, a2⟩ := ln_inn hh
      have : k = lG L M d i := by omega
      rw [this]
      exact ⟨a2, Or.inr ⟨by omega, Or.inr a1⟩⟩
/-- N + 1 lines fill THE TEXT -/
def rdN (L : Nat) (d : Nat → Nat) (N : Nat) : Prop := N < 10 ∧ lEnd L 76 d (lS L 76 d N) = L ∧ ∀ p, p < N → sIn L 76 d (lEnd L 76 d (lS L 76 d p)) 59 59
def tX (L : Nat) (d : Nat → Nat) (σ : jT) : Prop := L ≤ 80 ∧ σ.1 65 = nI L ∧ ∀ j, j < L → d j < 256 ∧ σ.2 2 j = nI (d j)
theorem c_at {L j : Nat} {d : Nat → Nat} {σ : jT} (h : tX L d σ) (hj : j < L) : f_X9_at (nI j) σ = some (nI (d j), σ) := by
  obtain ⟨h1, h2, h3⟩ := h
  unfold f_X9_at
  rw [if_neg (nI_pos (by omega)), h2, if_neg (fun c => by have := (ja_le (by omega) (by omega)).1 c; omega), if_pos (ja_in (n := 80) (by omega) (by omega)), nI_clamp (by omega), (h3 j hj).2]
theorem c_len {L : Nat} {d : Nat → Nat} {σ : jT} (h : tX L d σ) : f_X9_length σ = some (nI L, σ) := by
  unfold f_X9_length
  rw [h.2.1]
/-- the class counts the places -/
theorem cn_run {L : Nat} {d : Nat → Nat} {σ : jT} {x : Int32} (h : tX L d σ) : ∀ (m j fu : Nat), (∀ j', j ≤ j' → j' < j + m → j' < L ∧ d j' ≠ 59) → f_X1_inRoads_1_b16 (m + fu) x (nI j) σ = f_X1_inRoads_1_b16 fu x (nI (j + m)) σ := by
  have h80 := h.1
  intro m
  induction m with
  | zero => intro j fu _; rw [Nat.zero_add]; rfl
  | succ m ih =>
    intro j fu hr
    obtain ⟨a1, a2⟩ := hr j (Nat.le_refl _) (by omega)
    have a3 := (h.2.2 j a1).1
    rw [show m + 1 + fu = (m + fu) + 1 by omega, f_X1_inRoads_1_b16, c_len h]
    simp only [bnd]
    rw [if_neg (fun c => by have := (ja_le (by omega) (by omega)).1 c; omega), c_at h a1]
    simp only [bnd]
    unfold f_X1_inRoads_1_b40
    rw [if_pos (show ¬ nI (d j) = 59 from fun q => a2 ((ja_eq (b := 59) (by omega) (by omega)).1 q)), nS, show x + 0 = x from Int32.add_zero x, ih (j + 1) fu (fun j' h1 h2 => hr j' (by omega) (by omega)), show j + 1 + m = j + (m + 1) by omega]
theorem cn_lines {L N : Nat} {d : Nat → Nat} {σ : jT} (h : tX L d σ) (hN : rdN L d N) : ∀ p, p ≤ N → lS L 76 d p ≤ L ∧ lS L 76 d p ≤ 76 ∧ ∀ fu, f_X1_inRoads_1_b16 (lS L 76 d p + fu) 1 0 σ = f_X1_inRoads_1_b16 fu (nI (p + 1)) (nI (lS L 76 d p)) σ := by
  intro p
  induction p with
  | zero =>
    intro _
    refine ⟨Nat.zero_le _, Nat.zero_le _, fun fu => ?_⟩
    rw [show lS L 76 d 0 + fu = fu from Nat.zero_add fu]; rfl
  | succ p ih =>
    intro hp
    obtain ⟨h1, h2, h3⟩ := ih (by omega)
    have hs := hN.2.2 p (by omega)
    obtain ⟨s1, s2, s3, s4⟩ := hs
    have hS : lS L 76 d (p + 1) = lEnd L 76 d (lS L 76 d p) + 1 := rfl
    have hle : lS L 76 d p ≤ lEnd L 76 d (lS L 76 d p) := by unfold lEnd; omega
    refine ⟨by omega, by omega, fun fu => ?_⟩
    have e1 := h3 ((lEnd L 76 d (lS L 76 d p) - lS L 76 d p) + (1 + fu))
    rw [show lS L 76 d p + (lEnd L 76 d (lS L 76 d p) - lS L 76 d p + (1 + fu)) = lS L 76 d (p + 1) + fu by omega, cn_run h (lEnd L 76 d (lS L 76 d p) - lS L 76 d p) (lS L 76 d p) (1 + fu) (fun j' k1 k2 => by
      obtain ⟨b1, b2⟩ := ln_all k1 (show j' < lEnd L 76 d (lS L 76 d p) by omega)
      exact ⟨b1, by omega⟩), show lS L 76 d p + (lEnd L 76 d (lS L 76 d p) - lS L 76 d p) = lEnd L 76 d (lS L 76 d p) by omega] at e1
    rw [e1, show 1 + fu = fu + 1 by omega, f_X1_inRoads_1_b16, c_len h]
    simp only [bnd]
    have h80 := h.1
    rw [if_neg (fun c => by have := (ja_le (by omega) (by omega)).1 c; omega), c_at h s2]
    simp only [bnd]
    unfold f_X1_inRoads_1_b40
    rw [show d (lEnd L 76 d (lS L 76 d p)) = 59 by omega, if_neg (show ¬ ¬ nI 59 = 59 from fun q => q rfl), nS, nS, hS]
theorem cn_all {L N : Nat} {d : Nat → Nat} {σ : jT} (h : tX L d σ) (hN : rdN L d N) : f_X1_inRoads_1_b16 1000 1 0 σ = f_X1_inRoads_1_b50 1000 (nI (N + 1)) 0 σ := by
  have h80 := h.1
  obtain ⟨h1, h2, h3⟩ := cn_lines h hN N (Nat.le_refl _)
  have hle : lS L 76 d N ≤ lEnd L 76 d (lS L 76 d N) := by unfold lEnd; omega
  have hE := hN.2.1
  have e1 := h3 ((L - lS L 76 d N) + (1000 - L))
  rw [show lS L 76 d N + (L - lS L 76 d N + (1000 - L)) = 1000 by omega, cn_run h (L - lS L 76 d N) (lS L 76 d N) (1000 - L) (fun j' k1 k2 => by
      obtain ⟨b1, b2⟩ := ln_all k1 (show j' < lEnd L 76 d (lS L 76 d N) by omega)
      exact ⟨b1, by omega⟩), show lS L 76 d N + (L - lS L 76 d N) = L by omega] at e1
  rw [e1, show 1000 - L = (999 - L) + 1 by omega, f_X1_inRoads_1_b16, c_len h]
  simp only [bnd]
  rw [if_pos ((ja_le (by omega) (by omega)).2 (Nat.le_refl _))]
/-- and looks for a letter that is none of them -/
theorem cl_find {L K : Nat} {d : Nat → Nat} {σ : jT} (h : tX L d σ) (hK : K ≤ 10) {o : Nat} (ho : o ≤ L) (hg : ∀ j, j < o → d j < 97 + K) (hb : o < L → 97 + K ≤ d o) : ∀ (m j fu : Nat), j + m = o → m < fu → f_X1_inRoads_1_b50 fu (nI K) (nI j) σ = some (if o = L then -1 else nI o, σ) := by
  have h80 := h.1
  intro m
  induction m with
  | zero =>
    intro j fu hj hf
    obtain ⟨fu, rfl⟩ : ∃ f', fu = f' + 1 := ⟨fu - 1, by omega⟩
    obtain rfl : j = o := by omega
    rw [f_X1_inRoads_1_b50, c_len h]
    simp only [bnd]
    by_cases c : j = L
    · rw [if_pos ((ja_le (by omega) (by omega)).2 (by omega)), if_pos c]
    · have a3 := (h.2.2 j (by omega)).1
      rw [if_neg (fun q => by have := (ja_le (by omega) (by omega)).1 q; omega), c_at h (by omega)]
      simp only [bnd]
      rw [show (97 : Int32) + nI K = nI (97 + K) from ja_add 97 K, if_neg (fun q => by have := (ja_lt (by omega) (by omega)).1 q; have := hb (by omega); omega), if_neg c]
  | succ m ih =>
    intro j fu hj hf
    obtain ⟨fu, rfl⟩ : ∃ f', fu = f' + 1 := ⟨fu - 1, by omega⟩
    have a3 := (h.2.2 j (by omega)).1
    rw [f_X1_inRoads_1_b50, c_len h]
    simp only [bnd]
    rw [if_neg (fun q => by have := (ja_le (by omega) (by omega)).1 q; omega), c_at h (by omega)]
    simp only [bnd]
    rw [show (97 : Int32) + nI K = nI (97 + K) from ja_add 97 K, if_pos ((ja_lt (by omega) (by omega)).2 (hg j (by omega))), nS]
    exact ih (j + 1) fu (by omega) (by omega)
/-- the first letter that is too great, or the text's end -/
theorem fb_ex (L K : Nat) (d : Nat → Nat) : ∃ o, o ≤ L ∧ (∀ j, j < o → d j < 97 + K) ∧ (o < L → 97 + K ≤ d o) := by
  induction L with
  | zero => exact ⟨0, Nat.le_refl _, fun j h => absurd h (Nat.not_lt_zero _), fun h => absurd h (Nat.lt_irrefl _)⟩
  | succ L ih =>
    obtain ⟨o, h1, h2, h3⟩ := ih
    by_cases c : o < L
    · exact ⟨o, by omega, h2, fun _ => h3 c⟩
    · obtain rfl : o = L := by omega
      by_cases c2 : d o < 97 + K
      · exact ⟨o + 1, Nat.le_refl _, fun j hj => by
          by_cases z : j = o
          · rw [z]; exact c2
          · exact h2 j (by omega), fun h => absurd h (Nat.lt_irrefl _)⟩
      · exact ⟨o, by omega, h2, fun _ => by omega⟩
