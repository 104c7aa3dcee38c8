/-! ===== numbers, the lines of riders ===== -/
def nD (L M : Nat) (d : Nat → Nat) (i : Nat) : Nat := if sIn L M d i 48 57 then (if sIn L M d (i + 1) 48 57 then 2 else 1) else 0
def nV (L M : Nat) (d : Nat → Nat) (i : Nat) : Nat := if nD L M d i = 2 then 10 * (d i - 48) + (d (i + 1) - 48) else d i - 48
theorem nD_0 {L M i : Nat} {d : Nat → Nat} (h : ¬ sIn L M d i 48 57) : nD L M d i = 0 := by unfold nD; rw [if_neg h]
theorem nD_1 {L M i : Nat} {d : Nat → Nat} (h : sIn L M d i 48 57) (h2 : ¬ sIn L M d (i + 1) 48 57) : nD L M d i = 1 := by unfold nD; rw [if_pos h, if_neg h2]
theorem nD_2 {L M i : Nat} {d : Nat → Nat} (h : sIn L M d i 48 57) (h2 : sIn L M d (i + 1) 48 57) : nD L M d i = 2 := by unfold nD; rw [if_pos h, if_pos h2]
theorem nD_le {L M i : Nat} {d : Nat → Nat} (h1 : i ≤ L) (h2 : i ≤ M) : nD L M d i ≤ 2 ∧ i + nD L M d i ≤ L ∧ i + nD L M d i ≤ M := by
  by_cases c : sIn L M d i 48 57
  · obtain ⟨a1, a2, _, _⟩ := id c
    by_cases c2 : sIn L M d (i + 1) 48 57
    · obtain ⟨b1, b2, _, _⟩ := id c2
      rw [nD_2 c c2]; omega
    · rw [nD_1 c c2]; omega
  · rw [nD_0 c]; omega
theorem nV_le {L M i : Nat} {d : Nat → Nat} : ¬ nD L M d i = 0 → nV L M d i ≤ 99 := by
  intro h
  unfold nV
  by_cases c : sIn L M d i 48 57
  · obtain ⟨a1, a2, a3, a4⟩ := id c
    by_cases c2 : sIn L M d (i + 1) 48 57
    · obtain ⟨b1, b2, b3, b4⟩ := id c2
      rw [if_pos (nD_2 c c2)]; omega
    · rw [if_neg (by rw [nD_1 c c2]; omega)]; omega
  · exact absurd (nD_0 c) h
theorem sub48 {a : Nat} (h : 48 ≤ a) : nI a - 48 = nI (a - 48) := ja_sub (s := 48) h
theorem c_digs {L M j fu : Nat} {d : Nat → Nat} {σ : jT} {x : Int32} (k : Nat) (K : Nat) (hK : K < 2 ^ 31) (h : bX L M d σ) (hj : j ≤ 80) (hk : k < K) : f_X9_number_b4 (fu + 1) (nI K) x (nI k) (gs σ 67 (nI j)) = if sIn L M d j 48 57 then f_X9_number_b4 fu (nI K) (((if x = -1 then 0 else x * 10) + nI (d j)) - 48) (nI (k + 1)) (gs σ 67 (nI (j + 1))) else some (x, gs σ 67 (nI j)) := by
  have hc := bX_at h hj
  obtain ⟨k1, k2⟩ := sIn_lt (L := L) (M := M) (i := j) (d := d) (a := 48) (b := 57) (fun z hz => (h.2.2.2.2 z hz).1) (by omega) (by omega)
  rw [f_X9_number_b4, if_neg (fun c => by have := (ja_le (by omega) (by omega)).1 c; omega), c_peek hc]
  simp only [bnd]
  unfold f_X9_number_b44
  by_cases c : sIn L M d j 48 57
  · have a1 : ¬ sgn L M d j < 48 := (k1 c).1
    have a2 : sgn L M d j ≤ 57 := Int32.not_lt.1 (k1 c).2
    rw [if_neg a1, if_pos a2, if_pos c, sgn_t c.1 c.2.1, show (gs σ 67 (nI j)).1 67 = nI j from rfl, nS, nS, gs_gs]
    by_cases z : x = -1
    · rw [if_neg (fun q => q z), if_pos z]
    · rw [if_pos z, if_neg z]
  · rw [if_neg c]
    by_cases z : sgn L M d j < 48
    · rw [if_pos z]
    · have a2 : ¬ sgn L M d j ≤ 57 := fun q => (Int32.not_lt.2 q) ((k2 c).resolve_left z)
      rw [if_neg z, if_neg a2]
theorem m10 {a : Nat} (h : a ≤ 9) : nI a * 10 = nI (10 * a) ∧ 10 * nI a = nI (10 * a) := by
  have : ∀ a, a < 10 → nI a * 10 = nI (10 * a) ∧ 10 * nI a = nI (10 * a) := by decide
  exact this a (by omega)
theorem c_num2 {L M i : Nat} {d : Nat → Nat} {σ : jT} (h : bX L M d σ) (hi : i ≤ 78) : f_X9_number 2 (gs σ 67 (nI i)) = some (if nD L M d i = 0 then -1 else nI (nV L M d i), gs σ 67 (nI (i + nD L M d i))) := by
  unfold f_X9_number
  have e1 := c_digs (fu := 999) (x := -1) 0 2 (by omega) h (show i ≤ 80 by omega) (by omega)
  have e1' : f_X9_number_b4 1000 2 (-1) 0 (gs σ 67 (nI i)) = _ := e1
  rw [e1']
  by_cases c : sIn L M d i 48 57
  · obtain ⟨a1, a2, a3, a4⟩ := id c
    rw [if_pos c, if_pos rfl, show (0 : Int32) + nI (d i) = nI (d i) from Int32.zero_add _, sub48 a3]
    have e2 := c_digs (fu := 998) (x := nI (d i - 48)) 1 2 (by omega) h (show i + 1 ≤ 80 by omega) (by omega)
    rw [e2]
    by_cases c2 : sIn L M d (i + 1) 48 57
    · obtain ⟨b1, b2, b3, b4⟩ := id c2
      rw [if_pos c2, if_neg (ja_neg1 (by omega)), (m10 (show d i - 48 ≤ 9 by omega)).1, ja_add, sub48 (by omega), nD_2 c c2, show (998 : Nat) = 997 + 1 from rfl, f_X9_number_b4, if_pos (by decide), if_neg (by omega)]
      unfold nV
      rw [if_pos (nD_2 c c2), show 10 * (d i - 48) + d (i + 1) - 48 = 10 * (d i - 48) + (d (i + 1) - 48) by omega]
    · rw [if_neg c2, nD_1 c c2, if_neg (by omega)]
      unfold nV
      rw [if_neg (by rw [nD_1 c c2]; omega)]
  · rw [if_neg c, nD_0 c, if_pos rfl]; rfl
theorem c_num1 {L M i : Nat} {d : Nat → Nat} {σ : jT} (h : bX L M d σ) (hi : i ≤ 79) : f_X9_number 1 (gs σ 67 (nI i)) = if sIn L M d i 48 57 then some (nI (d i - 48), gs σ 67 (nI (i + 1))) else some (-1, gs σ 67 (nI i)) := by
  unfold f_X9_number
  have e1 := c_digs (fu := 999) (x := -1) 0 1 (by omega) h (show i ≤ 80 by omega) (by omega)
  have e1' : f_X9_number_b4 1000 1 (-1) 0 (gs σ 67 (nI i)) = _ := e1
  rw [e1']
  by_cases c : sIn L M d i 48 57
  · obtain ⟨a1, a2, a3, a4⟩ := id c
    rw [if_pos c, if_pos rfl, show (0 : Int32) + nI (d i) = nI (d i) from Int32.zero_add _, sub48 a3, if_pos c, show (999 : Nat) = 998 + 1 from rfl, f_X9_number_b4, if_pos (by decide)]
  · rw [if_neg c, if_neg c]
theorem m_num2 {L M i : Nat} {d : Nat → Nat} {τ : jT} (h : mX L M i d τ) (hi : i ≤ 78) : f_X11_number_T 2 τ = if nD L M d i = 0 then some (0, gs τ 4177 (nI i)) else some (nI (nV L M d i), gs τ 4176 (nI (i + nD L M d i))) := by
  unfold f_X11_number_T
  have e1 := m_digit (a := 0) (b := 9) h (by omega) (by omega)
  have e1' : f_X11_digit_T 0 9 τ = _ := e1
  rw [e1']
  by_cases c : sIn L M d i 48 57
  · obtain ⟨a1, a2, a3, a4⟩ := id c
    rw [if_pos c]
    simp only [bnd]
    have h1 := mX_1 h (show i + 1 ≤ 80 by omega)
    obtain ⟨-, -, -, -, -, -, ew, e4⟩ := id h1
    rw [show (1000 : Nat) = 999 + 1 from rfl, f_X11_number_T_b10, if_neg (by decide), m_fine ew]
    simp only [bnd]
    rw [if_neg (show ¬ (1 : Int32) = 0 by decide), m_here h1]
    simp only [bnd]
    have ei := m_inS (i := i + 1) (M := M) (a := 48) (b := 57) (τ := gs τ 4176 (nI (i + 1))) (fun j hj => (e4 j hj).1) (by omega) (by omega)
    have ei' : f_X11_in (sgn L M d (i + 1)) 48 57 (gs τ 4176 (nI (i + 1))) = _ := ei
    rw [ei']
    simp only [bnd]
    by_cases c2 : sIn L M d (i + 1) 48 57
    · obtain ⟨b1, b2, b3, b4⟩ := id c2
      have e2 := m_digit (a := 0) (b := 9) h1 (by omega) (by omega)
      have e2' : f_X11_digit_T 0 9 (gs τ 4176 (nI (i + 1))) = _ := e2
      rw [if_pos c2, if_neg (show ¬ (1 : Int32) = 0 by decide), e2', if_pos c2]
      simp only [bnd]
      rw [show (999 : Nat) = 998 + 1 from rfl, f_X11_number_T_b10, if_pos (by decide), nD_2 c c2, if_neg (by omega), sub48 a3, sub48 b3, (m10 (show d i - 48 ≤ 9 by omega)).2, ja_add, gs_gs]
      unfold nV
      rw [if_pos (nD_2 c c2)]
    · rw [if_neg c2, if_pos rfl, nD_1 c c2, if_neg (by omega), sub48 a3]
      unfold nV
      rw [if_neg (by rw [nD_1 c c2]; omega)]
  · rw [if_neg c]
    simp only [bnd]
    rw [nD_0 c, if_pos rfl, show (1000 : Nat) = 999 + 1 from rfl, f_X11_number_T_b10, if_neg (by decide), m_fine0 (show ¬ (gs τ 4177 (nI i)).1 4177 = -1 from ja_neg1 (by omega))]
    simp only [bnd]
    rw [iT]
