/-! ===== the lines of THE ROADS ===== -/
def lW (L M : Nat) (d : Nat → Nat) (i : Nat) : Nat := if sIn L M d i 97 106 then (if sIn L M d (i + 1) 97 106 then (if sIn L M d (i + 2) 97 106 then 3 else 2) else 1) else 0
def lA (L M : Nat) (d : Nat → Nat) (i : Nat) : Nat := if sIn L M d i 45 45 then 0 else lW L M d i
def lG (L M : Nat) (d : Nat → Nat) (i : Nat) : Nat := if sIn L M d i 45 45 then 1 else lW L M d i
def lH (L M : Nat) (d : Nat → Nat) (i : Nat) : Nat := if sIn L M d (i + lG L M d i) 33 33 then 1 else 0
def lEnd (L M : Nat) (d : Nat → Nat) (i : Nat) : Nat := i + lG L M d i + lH L M d i
def lS (L M : Nat) (d : Nat → Nat) : Nat → Nat
  | 0 => 0
  | p + 1 => lEnd L M d (lS L M d p) + 1
theorem lW_le (L M : Nat) (d : Nat → Nat) (i : Nat) : lW L M d i ≤ 3 := by
  unfold lW
  split
  · split
    · split <;> omega
    · omega
  · omega
theorem lW_all {L M : Nat} {d : Nat → Nat} {i k : Nat} (h : k < lW L M d i) : sIn L M d (i + k) 97 106 := by
  unfold lW at h
  by_cases c0 : sIn L M d i 97 106
  · rw [if_pos c0] at h
    by_cases c1 : sIn L M d (i + 1) 97 106
    · rw [if_pos c1] at h
      by_cases c2 : sIn L M d (i + 2) 97 106
      · rw [if_pos c2] at h
        rcases (show k = 0 ∨ k = 1 ∨ k = 2 by omega) with rfl | rfl | rfl
        · exact c0
        · exact c1
        · exact c2
      · rw [if_neg c2] at h
        rcases (show k = 0 ∨ k = 1 by omega) with rfl | rfl
        · exact c0
        · exact c1
    · rw [if_neg c1] at h
      obtain rfl : k = 0 := by omega
      exact c0
  · rw [if_neg c0] at h; omega
theorem lW_stop {L M : Nat} {d : Nat → Nat} {i : Nat} (h : lW L M d i < 3) : ¬ sIn L M d (i + lW L M d i) 97 106 := by
  unfold lW at h ⊢
  by_cases c0 : sIn L M d i 97 106
  · rw [if_pos c0] at h ⊢
    by_cases c1 : sIn L M d (i + 1) 97 106
    · rw [if_pos c1] at h ⊢
      by_cases c2 : sIn L M d (i + 2) 97 106
      · rw [if_pos c2] at h; omega
      · rw [if_neg c2]; exact c2
    · rw [if_neg c1]; exact c1
  · rw [if_neg c0]; exact c0
theorem lW_uniq {L M : Nat} {d : Nat → Nat} {i k : Nat} (h3 : k ≤ 3) (h1 : ∀ k', k' < k → sIn L M d (i + k') 97 106) (h2 : k < 3 → ¬ sIn L M d (i + k) 97 106) : lW L M d i = k := by
  have h4 := lW_le L M d i
  by_cases c : lW L M d i < k
  · exact absurd (h1 _ c) (lW_stop (by omega))
  · by_cases c2 : k < lW L M d i
    · exact absurd (lW_all c2) (h2 (by omega))
    · omega
theorem gs_gs (σ : jT) (i : Nat) (a b : Int32) : gs (gs σ i a) i b = gs σ i b := by
  unfold gs
  refine Prod.ext (funext fun j => ?_) rfl
  show (if j = i then b else if j = i then a else σ.1 j) = if j = i then b else σ.1 j
  by_cases c : j = i
  · rw [if_pos c, if_pos c]
  · rw [if_neg c, if_neg c, if_neg c]
/-- the class reads THE TEXT, from wherever -/
def bX (L M : Nat) (d : Nat → Nat) (σ : jT) : Prop := L ≤ 80 ∧ M ≤ 80 ∧ σ.1 65 = nI L ∧ σ.1 66 = nI M ∧ ∀ j, j < L → d j < 256 ∧ σ.2 2 j = nI (d j)
theorem bX_at {L M j : Nat} {d : Nat → Nat} {σ : jT} (h : bX L M d σ) (hj : j ≤ 80) : cX L M j d (gs σ 67 (nI j)) := ⟨h.1, h.2.1, hj, h.2.2.1, h.2.2.2.1, rfl, h.2.2.2.2⟩
theorem b_take {L M j a : Nat} {d : Nat → Nat} {σ : jT} (h : bX L M d σ) (hj : j ≤ 80) (ha : a < 2 ^ 31) : f_X9_take (nI a) (gs σ 67 (nI j)) = if sIn L M d j a a then some (1, gs σ 67 (nI (j + 1))) else some (0, gs σ 67 (nI j)) := by
  rw [c_take (bX_at h hj) ha, gs_gs]
theorem b_takeOf {L M j a b : Nat} {d : Nat → Nat} {σ : jT} (h : bX L M d σ) (hj : j ≤ 80) (ha : a < 2 ^ 31) (hb : b < 2 ^ 31) : f_X9_takeOf (nI a) (nI b) (gs σ 67 (nI j)) = if sIn L M d j a b then some (1, gs σ 67 (nI (j + 1))) else some (0, gs σ 67 (nI j)) := by
  rw [c_takeOf (bX_at h hj) ha hb, gs_gs]
theorem c_line {L M i : Nat} {d : Nat → Nat} {σ : jT} (h : bX L M d σ) (hi : i ≤ 76) : f_X1_takeRoadLine_1 (gs σ 67 (nI i)) = some (if lG L M d i = 0 then 0 else 1, gs σ 67 (nI (if lG L M d i = 0 then i else lEnd L M d i))) := by
  have hw := lW_le L M d i
  -- the inn's sign
  have inn : ∀ g, g ≤ 3 → 1 ≤ g → lG L M d i = g → f_X1_takeRoadLine_1_b37 1 (gs σ 67 (nI (i + g))) = some (1, gs σ 67 (nI (lEnd L M d i))) := by
    intro g h3 h1 hg
    unfold f_X1_takeRoadLine_1_b37 lEnd lH
    have et := b_take (a := 33) h (show i + g ≤ 80 by omega) (by omega)
    have et' : f_X9_take 33 (gs σ 67 (nI (i + g))) = _ := et
    rw [if_neg (show ¬ (1 : Int32) = 0 by decide), et', hg]
    by_cases c : sIn L M d (i + g) 33 33
    · rw [if_pos c, if_pos c]
      simp only [bnd]
      rfl
    · rw [if_neg c, if_neg c]
      simp only [bnd]
      rfl
  have lets : ∀ (m k fu : Nat), k + m = 3 → m < fu → (∀ k', k' < k → sIn L M d (i + k') 97 106) → f_X1_takeRoadLine_1_b13 fu (if k = 0 then 0 else 1) (nI k) (gs σ 67 (nI (i + k))) = f_X1_takeRoadLine_1_b37 (if lW L M d i = 0 then 0 else 1) (gs σ 67 (nI (i + lW L M d i))) := by
    intro m
    induction m with
    | zero =>
      intro k fu hk hf ha
      obtain ⟨fu, rfl⟩ : ∃ f', fu = f' + 1 := ⟨fu - 1, by omega⟩
      obtain rfl : k = 3 := by omega
      rw [f_X1_takeRoadLine_1_b13, if_pos (show (3 : Int32) ≤ nI 3 by decide), lW_uniq (Nat.le_refl _) ha (fun q => by omega)]
    | succ m ih =>
      intro k fu hk hf ha
      obtain ⟨fu, rfl⟩ : ∃ f', fu = f' + 1 := ⟨fu - 1, by omega⟩
      have et := b_takeOf (a := 97) (b := 106) h (show i + k ≤ 80 by omega) (by omega) (by omega)
      have et' : f_X9_takeOf 97 106 (gs σ 67 (nI (i + k))) = _ := et
      rw [f_X1_takeRoadLine_1_b13, if_neg (show ¬ (3 : Int32) ≤ nI k from nI_ge (b := 3) (by omega) (by omega)), et']
      by_cases c : sIn L M d (i + k) 97 106
      · rw [if_pos c]
        simp only [bnd]
        rw [if_neg (show ¬ (1 : Int32) = 0 by decide), nS]
        have e := ih (k + 1) fu (by omega) (by omega) (fun k' hk' => by
          by_cases z : k' = k
          · rw [z]; exact c
          · exact ha k' (by omega))
        rw [if_neg (by omega)] at e
        exact e
      · rw [if_neg c]
        simp only [bnd]
        rw [iT, lW_uniq (by omega) ha (fun _ => c)]
  unfold f_X1_takeRoadLine_1
  have et := b_take (a := 45) h (show i ≤ 80 by omega) (by omega)
  have et' : f_X9_take 45 (gs σ 67 (nI i)) = _ := et
  rw [et']
  by_cases c : sIn L M d i 45 45
  · have hg : lG L M d i = 1 := by unfold lG; rw [if_pos c]
    rw [if_pos c]
    simp only [bnd]
    rw [if_pos (show ¬ (1 : Int32) = 0 by decide), inn 1 (by omega) (by omega) hg, hg, if_neg (by omega), if_neg (by omega)]
  · have hg : lG L M d i = lW L M d i := by unfold lG; rw [if_neg c]
    rw [if_neg c]
    simp only [bnd]
    rw [iNT]
    have e := lets 3 0 1000 (by omega) (by omega) (fun k' h => absurd h (Nat.not_lt_zero _))
    rw [if_pos rfl] at e
    have e' : f_X1_takeRoadLine_1_b13 1000 0 0 (gs σ 67 (nI i)) = _ := e
    rw [e']
    by_cases z : lW L M d i = 0
    · rw [if_pos z, hg, if_pos z, if_pos z, z]
      unfold f_X1_takeRoadLine_1_b37
      rw [if_pos rfl, if_pos (Or.inl rfl)]; rfl
    · rw [if_neg z, inn (lW L M d i) hw (by omega) hg, hg, if_neg z, if_neg z]
