/-! ===== THE RULE: the model reads ===== -/
/-- the model reads the rule that it keeps, at i -/
def nX (L i : Nat) (d : Nat → Nat) (τ : jT) : Prop := L ≤ 40 ∧ i ≤ 40 ∧ τ.1 4174 = nI L ∧ τ.1 4175 = nI 40 ∧ τ.1 4176 = nI i ∧ τ.1 4177 = -1 ∧ ∀ j, j < L → d j < 256 ∧ (τ.2 77 j) &&& 255 = nI (d j) ∧ ((d j < 128 ∧ τ.2 77 j = nI (d j)) ∨ (128 ≤ d j ∧ τ.2 77 j < 0))
theorem nX_1 {L i j : Nat} {d : Nat → Nat} {τ : jT} (h : nX L i d τ) (hj : j ≤ 40) : nX L j d (gs τ 4176 (nI j)) := ⟨h.1, hj, h.2.2.1, h.2.2.2.1, rfl, h.2.2.2.2.2.1, h.2.2.2.2.2.2⟩
theorem n_here {L i : Nat} {d : Nat → Nat} {τ : jT} (h : nX L i d τ) : f_X11_here_R τ = some (sgn L 40 d i, τ) := by
  obtain ⟨hL, hi, e1, e2, e3, -, e4⟩ := h
  unfold f_X11_here_R sgn
  rw [e1, e2, e3]
  by_cases c2 : i < L
  · rw [if_neg (fun c => by have := (ja_le (by omega) (by omega)).1 c; omega)]
    by_cases c1 : i < 40
    · rw [if_neg (fun c => by have := (ja_le (by omega) (by omega)).1 c; omega), if_pos (ja_in (by omega) (by omega)), nI_clamp (by omega), if_pos ⟨c1, c2⟩, (e4 i c2).2.1]
    · rw [if_pos ((ja_le (by omega) (by omega)).2 (by omega)), if_neg (fun q => c1 q.1)]
  · rw [if_pos ((ja_le (by omega) (by omega)).2 (by omega)), if_neg (fun q => c2 q.2)]
theorem n_passes {L i a : Nat} {d : Nat → Nat} {τ : jT} (h : nX L i d τ) (ha : a < 2 ^ 31) : f_X11_passes_R (nI a) τ = if sIn L 40 d i a a then some (1, gs τ 4176 (nI (i + 1))) else some (0, τ) := by
  have h' := h
  obtain ⟨hL, hi, e1, e2, e3, ew, e4⟩ := h'
  have k := sIn_eq (M := 40) (i := i) (fun j hj => (e4 j hj).1) ha
  unfold f_X11_passes_R
  rw [m_fine ew]
  simp only [bnd]
  rw [if_neg (show ¬ (1 : Int32) = 0 by decide), n_here h]
  simp only [bnd]
  by_cases c : sIn L 40 d i a a
  · rw [if_pos (k.2 c), if_pos c, e3, nS]
  · rw [if_neg (fun q => c (k.1 q)), if_neg c]
theorem n_dig9 {L i : Nat} {d : Nat → Nat} {τ : jT} (h : nX L i d τ) (c : sIn L 40 d i 48 57) : f_X11_digit_R 0 9 τ = some (nI (d i - 48), gs τ 4176 (nI (i + 1))) := by
  have h' := h
  obtain ⟨hL, hi, e1, e2, e3, ew, e4⟩ := h'
  unfold f_X11_digit_R
  rw [m_fine ew]
  simp only [bnd]
  have es : f_X11_in (sgn L 40 d i) (48 + 0) (48 + 9) τ = some (if sIn L 40 d i 48 57 then 1 else 0, τ) := m_inS (a := 48) (b := 57) (fun j hj => (e4 j hj).1) (by omega) (by omega)
  rw [if_pos (show ¬ (1 : Int32) = 0 by decide), n_here h]
  simp only [bnd]
  rw [es]
  simp only [bnd]
  have c2 := c.2.1
  have c4 := c.2.2.2
  rw [if_pos c, if_pos (show ¬ (1 : Int32) = 0 by decide), e3, show nI i + 1 - 1 = nI i by rw [nS, ← nS, Int32.add_sub_cancel], if_pos (ja_in (by omega) (by omega)), nI_clamp (by omega), nS]
  rcases (e4 i c2).2.2 with z | z
  · rw [z.2, sub48 c.2.2.1]
  · omega
theorem m_num3 {L i : Nat} {d : Nat → Nat} {τ : jT} (hm : mX L 40 i d τ) (c : sIn L 40 d i 48 57) : f_X11_number_T 3 τ = some (nI (n3V L 40 d i), gs τ 4176 (nI (i + n3D L 40 d i))) := by
  have hd : ∀ j, j < L → d j < 256 := fun j hj => (hm.2.2.2.2.2.2.2 j hj).1
  obtain ⟨a1, a2, a3, a4⟩ := id c
  have loop : ∀ (fu j : Nat) (v : Int32) (k : Nat) (t : jT), k < 3 → mX L 40 (j) d t → f_X11_number_T_b10 (fu + 1) 3 v (nI k) t = if sIn L 40 d j 48 57 then f_X11_number_T_b10 fu 3 (10 * v + nI (d j - 48)) (nI (k + 1)) (gs t 4176 (nI (j + 1))) else some (v, t) := by
    intro fu j v k t hk ht
    rw [f_X11_number_T_b10, if_neg (show ¬ (3 : Int32) ≤ nI k from fun q => by have := (ja_le (a := 3) (by omega) (by omega)).1 q; omega), m_fine ht.2.2.2.2.2.2.1]
    simp only [bnd]
    rw [if_neg (show ¬ (1 : Int32) = 0 by decide), m_here ht]
    simp only [bnd]
    have es : f_X11_in (sgn L 40 d j) 48 57 t = some (if sIn L 40 d j 48 57 then 1 else 0, t) := m_inS (a := 48) (b := 57) hd (by omega) (by omega)
    rw [es]
    simp only [bnd]
    by_cases q : sIn L 40 d j 48 57
    · rw [if_pos q, if_neg (show ¬ (1 : Int32) = 0 by decide), if_pos q, (m_dig9 ht).trans (if_pos q)]
      simp only [bnd]
      rw [nS]
    · rw [if_neg q, if_pos rfl, if_neg q]
  unfold f_X11_number_T
  rw [(m_dig9 hm).trans (if_pos c)]
  simp only [bnd]
  have x1 : mX L 40 (i + 1) d (gs τ 4176 (nI (i + 1))) := mX_1 hm (by omega)
  rw [show (1 : Int32) = nI 1 from rfl, show (1000 : Nat) = 999 + 1 from rfl, loop 999 (i + 1) _ 1 _ (by omega) x1]
  unfold n3V n3D
  rw [if_pos c]
  by_cases c2 : sIn L 40 d (i + 1) 48 57
  · obtain ⟨b1, b2, b3, b4⟩ := id c2
    rw [if_pos c2, if_pos c2, if_pos c2, gs_gs]
    have x2 : mX L 40 (i + 2) d (gs τ 4176 (nI (i + 1 + 1))) := mX_1 hm (by omega)
    rw [(m100 (show d i - 48 ≤ 99 by omega)).2, ja_add, show (1 + 1 : Nat) = 2 from rfl, show (999 : Nat) = 998 + 1 from rfl, loop 998 (i + 2) _ 2 _ (by omega) x2]
    by_cases c3 : sIn L 40 d (i + 2) 48 57
    · obtain ⟨g1, g2, g3, g4⟩ := id c3
      rw [if_pos c3, if_pos c3, if_pos c3, gs_gs, (m100 (show 10 * (d i - 48) + (d (i + 1) - 48) ≤ 99 by omega)).2, ja_add, show (998 : Nat) = 997 + 1 from rfl, f_X11_number_T_b10, if_pos (by decide)]
    · rw [if_neg c3, if_neg c3, if_neg c3]
  · rw [if_neg c2, if_neg c2, if_neg c2]
theorem n_num3 {L i : Nat} {d : Nat → Nat} {τ : jT} (hm : nX L i d τ) (c : sIn L 40 d i 48 57) : f_X11_number_R 3 τ = some (nI (n3V L 40 d i), gs τ 4176 (nI (i + n3D L 40 d i))) := by
  have hd : ∀ j, j < L → d j < 256 := fun j hj => (hm.2.2.2.2.2.2 j hj).1
  obtain ⟨a1, a2, a3, a4⟩ := id c
  have loop : ∀ (fu j : Nat) (v : Int32) (k : Nat) (t : jT), k < 3 → nX L (j) d t → f_X11_number_R_b10 (fu + 1) 3 v (nI k) t = if sIn L 40 d j 48 57 then f_X11_number_R_b10 fu 3 (10 * v + nI (d j - 48)) (nI (k + 1)) (gs t 4176 (nI (j + 1))) else some (v, t) := by
    intro fu j v k t hk ht
    rw [f_X11_number_R_b10, if_neg (show ¬ (3 : Int32) ≤ nI k from fun q => by have := (ja_le (a := 3) (by omega) (by omega)).1 q; omega), m_fine ht.2.2.2.2.2.1]
    simp only [bnd]
    rw [if_neg (show ¬ (1 : Int32) = 0 by decide), n_here ht]
    simp only [bnd]
    have es : f_X11_in (sgn L 40 d j) 48 57 t = some (if sIn L 40 d j 48 57 then 1 else 0, t) := m_inS (a := 48) (b := 57) hd (by omega) (by omega)
    rw [es]
    simp only [bnd]
    by_cases q : sIn L 40 d j 48 57
    · rw [if_pos q, if_neg (show ¬ (1 : Int32) = 0 by decide), if_pos q, n_dig9 ht q]
      simp only [bnd]
      rw [nS]
    · rw [if_neg q, if_pos rfl, if_neg q]
  unfold f_X11_number_R
  rw [n_dig9 hm c]
  simp only [bnd]
  have x1 : nX L (i + 1) d (gs τ 4176 (nI (i + 1))) := nX_1 hm (by omega)
  rw [show (1 : Int32) = nI 1 from rfl, show (1000 : Nat) = 999 + 1 from rfl, loop 999 (i + 1) _ 1 _ (by omega) x1]
  unfold n3V n3D
  rw [if_pos c]
  by_cases c2 : sIn L 40 d (i + 1) 48 57
  · obtain ⟨b1, b2, b3, b4⟩ := id c2
    rw [if_pos c2, if_pos c2, if_pos c2, gs_gs]
    have x2 : nX L (i + 2) d (gs τ 4176 (nI (i + 1 + 1))) := nX_1 hm (by omega)
    rw [(m100 (show d i - 48 ≤ 99 by omega)).2, ja_add, show (1 + 1 : Nat) = 2 from rfl, show (999 : Nat) = 998 + 1 from rfl, loop 998 (i + 2) _ 2 _ (by omega) x2]
    by_cases c3 : sIn L 40 d (i + 2) 48 57
    · obtain ⟨g1, g2, g3, g4⟩ := id c3
      rw [if_pos c3, if_pos c3, if_pos c3, gs_gs, (m100 (show 10 * (d i - 48) + (d (i + 1) - 48) ≤ 99 by omega)).2, ja_add, show (998 : Nat) = 997 + 1 from rfl, f_X11_number_R_b10, if_pos (by decide)]
    · rw [if_neg c3, if_neg c3, if_neg c3]
  · rw [if_neg c2, if_neg c2, if_neg c2]
theorem m_need {L M i a : Nat} {d : Nat → Nat} {τ : jT} (h : mX L M i d τ) (ha : a < 2 ^ 31) : f_X11_need_T (nI a) τ = if sIn L M d i a a then some (0, gs τ 4176 (nI (i + 1))) else some (0, gs τ 4177 (nI i)) := by
  obtain ⟨-, -, -, e1, e2, e3, ew, -⟩ := id h
  unfold f_X11_need_T
  rw [m_passes h ha]
  by_cases c : sIn L M d i a a
  · rw [if_pos c, if_pos c]
    simp only [bnd]
    rw [if_pos (show ¬ (1 : Int32) = 0 by decide)]
  · rw [if_neg c, if_neg c]
    simp only [bnd]
    rw [iNT, m_fault ew, e3]
    simp only [bnd]
theorem n_need {L i a : Nat} {d : Nat → Nat} {τ : jT} (h : nX L i d τ) (ha : a < 2 ^ 31) (c : sIn L 40 d i a a) : f_X11_need_R (nI a) τ = some (0, gs τ 4176 (nI (i + 1))) := by
  unfold f_X11_need_R
  rw [n_passes h ha, if_pos c]
  simp only [bnd]
  rw [if_pos (show ¬ (1 : Int32) = 0 by decide)]
