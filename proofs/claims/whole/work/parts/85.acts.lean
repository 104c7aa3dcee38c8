/-! ===== the acts of a journey are read ===== -/
abbrev aTwo (c : Nat) : Prop := c = 109 ∨ c = 119 ∨ c = 108 ∨ c = 120
def aOk (L : Nat) (d : Nat → Nat) (i : Nat) : Prop := i < 60 ∧ i < L ∧ ((aTwo (d i) ∧ sIn L 60 d (i + 1) 48 57 ∧ sIn L 60 d (i + 2) 48 57) ∨ d i = 100 ∨ (d i = 122 ∧ sIn L 60 d (i + 1) 48 57) ∨ (d i = 114 ∧ ¬ nD L 60 d (i + 1) = 0))
def aEnd (L : Nat) (d : Nat → Nat) (i : Nat) : Nat := if d i = 100 then i + 1 else if d i = 122 then i + 2 else if d i = 114 then i + 1 + nD L 60 d (i + 1) else i + 3
def aX (L : Nat) (d : Nat → Nat) (i : Nat) : Int32 := if d i = 114 then nI (nV L 60 d (i + 1)) else nI (d (i + 1) - 48)
def kJ (n : Nat) (τ τ' : jT) : Prop := (∀ z, z ≠ 4176 → z ≠ 4177 → τ'.1 z = τ.1 z) ∧ (∀ o, o ≠ 81 → τ'.2 o = τ.2 o) ∧ ∀ j, j < 3 * n ∨ 3 * n + 3 ≤ j → τ'.2 81 j = τ.2 81 j
theorem kJ_refl (n : Nat) (τ : jT) : kJ n τ τ := ⟨fun _ _ _ => rfl, fun _ _ => rfl, fun _ _ => rfl⟩
theorem kJ_trans {n : Nat} {a b c : jT} (h1 : kJ n a b) (h2 : kJ n b c) : kJ n a c := ⟨fun z a1 a2 => (h2.1 z a1 a2).trans (h1.1 z a1 a2), fun o a1 => (h2.2.1 o a1).trans (h1.2.1 o a1), fun j h => (h2.2.2 j h).trans (h1.2.2 j h)⟩
theorem kJ_g {n : Nat} {τ : jT} {z : Nat} {v : Int32} (hz : z = 4176 ∨ z = 4177) : kJ n τ (gs τ z v) := ⟨fun y a1 a2 => if_neg (by omega), fun _ _ => rfl, fun _ _ => rfl⟩
theorem kJ_81 {n : Nat} {τ : jT} {k : Nat} {v : Int32} (h1 : 3 * n ≤ k) (h2 : k < 3 * n + 3) : kJ n τ (gA τ 81 k v) := ⟨fun _ _ _ => rfl, fun o ho => funext fun j => by rw [ja_gA, if_neg (fun q => ho q.1)], fun j hj => by rw [ja_gA, if_neg (fun q => by omega)]⟩
theorem mX_81 {L M i k : Nat} {d : Nat → Nat} {τ : jT} {v : Int32} (h : mX L M i d τ) : mX L M i d (gA τ 81 k v) := mX_o h (fun _ _ _ => rfl) (funext fun j => by rw [ja_gA, if_neg (fun q => absurd q.1 (by decide))])
theorem m_dig9 {L M i : Nat} {d : Nat → Nat} {τ : jT} (h : mX L M i d τ) : f_X11_digit_T 0 9 τ = if sIn L M d i 48 57 then some (nI (d i - 48), gs τ 4176 (nI (i + 1))) else some (0, gs τ 4177 (nI i)) := by
  have e : f_X11_digit_T 0 9 τ = if sIn L M d i 48 57 then some (nI (d i) - 48, gs τ 4176 (nI (i + 1))) else some (0, gs τ 4177 (nI i)) := m_digit (a := 0) (b := 9) h (by omega) (by omega)
  rw [e]
  by_cases c : sIn L M d i 48 57
  · rw [if_pos c, if_pos c, sub48 c.2.2.1]
  · rw [if_neg c, if_neg c]
theorem b_next {L M j : Nat} {d : Nat → Nat} {σ : jT} (h : bX L M d σ) (h1 : j < M) (h2 : j < L) : f_X9_next (gs σ 67 (nI j)) = some (nI (d j), gs σ 67 (nI (j + 1))) := by
  have hM := h.2.1
  have hd := (h.2.2.2.2 j h2).1
  unfold f_X9_next
  rw [c_peek (bX_at h (by omega)), sgn_t h1 h2]
  simp only [bnd]
  rw [if_neg (ja_neg1 (by omega)), show (gs σ 67 (nI j)).1 67 = nI j from rfl, nS, gs_gs]
theorem b_dig {L M j : Nat} {d : Nat → Nat} {σ : jT} (h : bX L M d σ) (hj : j ≤ 80) : f_X9_takeOf 48 57 (gs σ 67 (nI j)) = if sIn L M d j 48 57 then some (1, gs σ 67 (nI (j + 1))) else some (0, gs σ 67 (nI j)) := b_takeOf (a := 48) (b := 57) h hj (by omega) (by omega)
theorem c_two {L i : Nat} {d : Nat → Nat} {σ : jT} (h : bX L 60 d σ) (h1 : i < 60) (h2 : i < L) : ((f_X9_next (gs σ 67 (nI i))).bind fun q5 => (f_X9_takeOf 48 57 q5.2).bind fun q6 => if q6.1 = 0 then some ((0 : Int32), q6.2) else (f_X9_takeOf 48 57 q6.2).bind fun q8 => if q8.1 = 0 then some (0, q8.2) else some (1, q8.2)) = if sIn L 60 d (i + 1) 48 57 then (if sIn L 60 d (i + 2) 48 57 then some (1, gs σ 67 (nI (i + 3))) else some (0, gs σ 67 (nI (i + 2)))) else some (0, gs σ 67 (nI (i + 1))) := by
  rw [b_next h h1 h2]
  simp only [bnd]
  rw [b_dig h (by omega)]
  by_cases c : sIn L 60 d (i + 1) 48 57
  · rw [if_pos c, if_pos c]
    simp only [bnd]
    rw [if_neg (show ¬ (1 : Int32) = 0 by decide), show i + 1 + 1 = i + 2 from rfl, b_dig h (by omega)]
    by_cases c2 : sIn L 60 d (i + 2) 48 57
    · rw [if_pos c2]
      simp only [bnd]
      rw [if_neg (show ¬ (1 : Int32) = 0 by decide)]
    · rw [if_neg c2]
      simp only [bnd]
      rw [iT]
  · rw [if_neg c, if_neg c]
    simp only [bnd]
    rw [iT]
theorem c_actT {L i : Nat} {d : Nat → Nat} {σ : jT} (h : bX L 60 d σ) (h1 : i < 60) (h2 : i < L) (hk : aTwo (d i)) : f_X1_takeAct_1 (gs σ 67 (nI i)) = if sIn L 60 d (i + 1) 48 57 then (if sIn L 60 d (i + 2) 48 57 then some (1, gs σ 67 (nI (i + 3))) else some (0, gs σ 67 (nI (i + 2)))) else some (0, gs σ 67 (nI (i + 1))) := by
  unfold f_X1_takeAct_1
  rw [c_peek (bX_at h (by omega)), sgn_t h1 h2]
  simp only [bnd]
  refine Eq.trans ?_ (c_two h h1 h2)
  rcases hk with e | e | e | e <;> rw [e]
  · rw [if_neg (by decide), if_neg (by decide), if_pos (by decide)]
  · rw [if_neg (by decide), if_neg (by decide), if_neg (by decide), if_neg (by decide), if_pos (by decide)]
  · rw [if_neg (by decide), if_pos (by decide)]
  · rw [if_neg (by decide), if_neg (by decide), if_neg (by decide), if_neg (by decide), if_neg (by decide), if_pos (by decide)]
theorem c_actD {L i : Nat} {d : Nat → Nat} {σ : jT} (h : bX L 60 d σ) (h1 : i < 60) (h2 : i < L) (e : d i = 100) : f_X1_takeAct_1 (gs σ 67 (nI i)) = some (1, gs σ 67 (nI (i + 1))) := by
  unfold f_X1_takeAct_1
  rw [c_peek (bX_at h (by omega)), sgn_t h1 h2]
  simp only [bnd]
  rw [e, if_pos (by decide), b_next h h1 h2]
  simp only [bnd]
theorem c_actZ {L i : Nat} {d : Nat → Nat} {σ : jT} (h : bX L 60 d σ) (h1 : i < 60) (h2 : i < L) (e : d i = 122) : f_X1_takeAct_1 (gs σ 67 (nI i)) = if sIn L 60 d (i + 1) 48 57 then some (1, gs σ 67 (nI (i + 2))) else some (0, gs σ 67 (nI (i + 1))) := by
  unfold f_X1_takeAct_1
  rw [c_peek (bX_at h (by omega)), sgn_t h1 h2]
  simp only [bnd]
  rw [e, if_neg (by decide), if_neg (by decide), if_neg (by decide), if_neg (by decide), if_neg (by decide), if_neg (by decide), if_pos (by decide), b_next h h1 h2]
  simp only [bnd]
  rw [b_dig h (by omega)]
  by_cases c : sIn L 60 d (i + 1) 48 57
  · rw [if_pos c]
    simp only [bnd]
    rw [if_pos (by decide)]
  · rw [if_neg c]
    simp only [bnd]
    rw [if_pos (by decide)]
theorem c_actR {L i : Nat} {d : Nat → Nat} {σ : jT} (h : bX L 60 d σ) (h1 : i < 60) (h2 : i < L) (e : d i = 114) : f_X1_takeAct_1 (gs σ 67 (nI i)) = some (if nD L 60 d (i + 1) = 0 then 0 else 1, gs σ 67 (nI (i + 1 + nD L 60 d (i + 1)))) := by
  unfold f_X1_takeAct_1
  rw [c_peek (bX_at h (by omega)), sgn_t h1 h2]
  simp only [bnd]
  rw [e, if_neg (by decide), if_neg (by decide), if_neg (by decide), if_pos (by decide), b_next h h1 h2]
  simp only [bnd]
  rw [c_num2 h (show i + 1 ≤ 78 by omega)]
  simp only [bnd]
  by_cases c : nD L 60 d (i + 1) = 0
  · rw [show (if nD L 60 d (i + 1) = 0 then (-1 : Int32) else nI (nV L 60 d (i + 1))) = -1 from if_pos c, if_pos (by decide), show (if nD L 60 d (i + 1) = 0 then (0 : Int32) else 1) = 0 from if_pos c]
  · rw [show (if nD L 60 d (i + 1) = 0 then (-1 : Int32) else nI (nV L 60 d (i + 1))) = nI (nV L 60 d (i + 1)) from if_neg c, if_neg (ja_neg1 (by have := nV_le c; omega)), show (if nD L 60 d (i + 1) = 0 then (0 : Int32) else 1) = 1 from if_neg c]
theorem c_actN {L i : Nat} {d : Nat → Nat} {σ : jT} (h : bX L 60 d σ) (hi : i ≤ 60) (n1 : ¬ sgn L 60 d i = 109) (n2 : ¬ sgn L 60 d i = 100) (n3 : ¬ sgn L 60 d i = 114) (n4 : ¬ sgn L 60 d i = 119) (n5 : ¬ sgn L 60 d i = 108) (n6 : ¬ sgn L 60 d i = 122) (n7 : ¬ sgn L 60 d i = 120) : f_X1_takeAct_1 (gs σ 67 (nI i)) = some (0, gs σ 67 (nI i)) := by
  unfold f_X1_takeAct_1
  rw [c_peek (bX_at h (by omega))]
  simp only [bnd]
  rw [if_neg n2, if_neg n5, if_neg n1, if_neg n3, if_neg n4, if_neg n7, if_neg n6]
/-! the model -/
theorem m_readK {x y : Int32} {τ : jT} (hh : f_X11_here_T τ = some (y, τ)) (hk : y = 109 ∨ y = 100 ∨ y = 114 ∨ y = 119 ∨ y = 108 ∨ y = 122 ∨ y = 120) : f_X11_readAct_T x τ = f_X11_readAct_T_b55 x y τ := by
  unfold f_X11_readAct_T
  rw [hh]
  simp only [bnd]
  rcases hk with e | e | e | e | e | e | e <;> rw [e]
  · rw [if_pos rfl]
  · rw [if_neg (by decide), if_pos rfl]
  · rw [if_neg (by decide), if_neg (by decide), if_pos rfl]
  · rw [if_neg (by decide), if_neg (by decide), if_neg (by decide), if_pos rfl]
  · rw [if_neg (by decide), if_neg (by decide), if_neg (by decide), if_neg (by decide), if_pos rfl]
  · rw [if_neg (by decide), if_neg (by decide), if_neg (by decide), if_neg (by decide), if_neg (by decide), if_pos rfl]
  · rw [if_neg (by decide), if_neg (by decide), if_neg (by decide), if_neg (by decide), if_neg (by decide), if_neg (by decide), if_pos rfl]
theorem m_b115T {c : Nat} (hk : aTwo c) (x : Int32) (τ : jT) : f_X11_readAct_T_b115 x (nI c) τ = f_X11_readAct_T_b139 x τ := by
  unfold f_X11_readAct_T_b115
  rcases hk with rfl | rfl | rfl | rfl
  · rw [if_pos (by decide)]
  · rw [if_neg (by decide), if_pos (by decide)]
  · rw [if_neg (by decide), if_neg (by decide), if_pos (by decide)]
  · rw [if_neg (by decide), if_neg (by decide), if_neg (by decide), if_neg (by decide)]
theorem m_b115N {y : Int32} (n1 : ¬ y = 109) (n4 : ¬ y = 119) (n5 : ¬ y = 108) (n7 : ¬ y = 120) (x : Int32) (τ : jT) : f_X11_readAct_T_b115 x y τ = some (0, τ) := by
  unfold f_X11_readAct_T_b115
  rw [if_neg n1, if_neg n4, if_neg n5, if_pos n7]
theorem m_readN {L i n : Nat} {d : Nat → Nat} {τ : jT} (hm : mX L 60 i d τ) (hn : n ≤ 40) (hi : i ≤ 60) (n1 : ¬ sgn L 60 d i = 109) (n2 : ¬ sgn L 60 d i = 100) (n3 : ¬ sgn L 60 d i = 114) (n4 : ¬ sgn L 60 d i = 119) (n5 : ¬ sgn L 60 d i = 108) (n6 : ¬ sgn L 60 d i = 122) (n7 : ¬ sgn L 60 d i = 120) : ∃ τ', f_X11_readAct_T (nI (3 * n)) τ = some (0, τ') ∧ kJ n τ τ' ∧ τ'.1 4177 = nI i := by
  obtain ⟨-, -, -, e1, e2, e3, ew, -⟩ := id hm
  unfold f_X11_readAct_T
  rw [m_here hm]
  simp only [bnd]
  rw [if_neg n1, if_neg n2, if_neg n3, if_neg n4, if_neg n5, if_neg n6, if_neg n7, m_fault ew, e3]
  simp only [bnd]
  unfold f_X11_readAct_T_b55
  rw [if_pos (ja_in (by omega) (by omega)), if_pos n3, if_neg n2, m_digit0 (show ¬ (gA (gs (gs τ 4177 (nI i)) 4176 ((gs τ 4177 (nI i)).1 4176 + 1)) 81 (nI (3 * n)).toNatClampNeg (sgn L 60 d i)).1 4177 = -1 from ja_neg1 (k := i) (by omega))]
  simp only [bnd]
  rw [nS, if_pos (ja_in (by omega) (by omega)), m_b115N n1 n4 n5 n7, nI_clamp (by omega), nI_clamp (by omega)]
  exact ⟨_, rfl, kJ_trans (kJ_trans (kJ_trans (kJ_g (Or.inr rfl)) (kJ_g (Or.inl rfl))) (kJ_81 (by omega) (by omega))) (kJ_81 (by omega) (by omega)), rfl⟩
/-- the model behind the sign of an act -/
def mA (τ : jT) (n i c : Nat) : jT := gA (gs τ 4176 (nI (i + 1))) 81 (3 * n) (nI c)
theorem mA_k (τ : jT) (n i c : Nat) : kJ n τ (mA τ n i c) := kJ_trans (kJ_g (Or.inl rfl)) (kJ_81 (by omega) (by omega))
theorem mA_X {L n i c : Nat} {d : Nat → Nat} {τ : jT} (hm : mX L 60 i d τ) (hi : i < 60) : mX L 60 (i + 1) d (mA τ n i c) := mX_81 (mX_1 hm (by omega))
theorem mA_81 (τ : jT) (n i c : Nat) : (mA τ n i c).2 81 (3 * n) = nI c := if_pos ⟨rfl, rfl⟩
theorem g81_eq (τ : jT) (k : Nat) (v : Int32) : (gA τ 81 k v).2 81 k = v := if_pos ⟨rfl, rfl⟩
theorem g81_ne (τ : jT) {k j : Nat} (v : Int32) (h : j ≠ k) : (gA τ 81 k v).2 81 j = τ.2 81 j := if_neg (fun q => h q.2)
theorem m_139 {L n i : Nat} {d : Nat → Nat} {τ : jT} (hn : n ≤ 40) (hm : mX L 60 i d τ) : f_X11_readAct_T_b139 (nI (3 * n)) τ = if sIn L 60 d i 48 57 then some (0, gA (gs τ 4176 (nI (i + 1))) 81 (3 * n + 2) (nI (d i - 48))) else some (0, gA (gs τ 4177 (nI i)) 81 (3 * n + 2) 0) := by
  unfold f_X11_readAct_T_b139
  rw [m_dig9 hm]
  have e2 : nI (3 * n) + 2 = nI (3 * n + 2) := ja_add _ 2
  by_cases c : sIn L 60 d i 48 57
  · rw [if_pos c, if_pos c]
    simp only [bnd]
    rw [e2, if_pos (ja_in (by omega) (by omega)), nI_clamp (by omega)]
  · rw [if_neg c, if_neg c]
    simp only [bnd]
    rw [e2, if_pos (ja_in (by omega) (by omega)), nI_clamp (by omega)]
theorem m_139n {n : Nat} {τ : jT} (hn : n ≤ 40) (hw : ¬ τ.1 4177 = -1) : f_X11_readAct_T_b139 (nI (3 * n)) τ = some (0, gA τ 81 (3 * n + 2) 0) := by
  unfold f_X11_readAct_T_b139
  rw [m_digit0 hw]
  simp only [bnd]
  rw [show nI (3 * n) + 2 = nI (3 * n + 2) from ja_add _ 2, if_pos (ja_in (by omega) (by omega)), nI_clamp (by omega)]
theorem aEnd_T {L i : Nat} {d : Nat → Nat} (h : aTwo (d i)) : aEnd L d i = i + 3 := by
  unfold aEnd
  rcases h with e | e | e | e <;> rw [e] <;> rfl
theorem aEnd_D {L i : Nat} {d : Nat → Nat} (h : d i = 100) : aEnd L d i = i + 1 := if_pos h
theorem aEnd_Z {L i : Nat} {d : Nat → Nat} (h : d i = 122) : aEnd L d i = i + 2 := by
  unfold aEnd
  rw [h]; rfl
theorem aEnd_R {L i : Nat} {d : Nat → Nat} (h : d i = 114) : aEnd L d i = i + 1 + nD L 60 d (i + 1) := by
  unfold aEnd
  rw [h]; rfl
theorem aX_R {L i : Nat} {d : Nat → Nat} (h : d i = 114) : aX L d i = nI (nV L 60 d (i + 1)) := if_pos h
theorem aX_N {L i : Nat} {d : Nat → Nat} (h : ¬ d i = 114) : aX L d i = nI (d (i + 1) - 48) := if_neg h
theorem aT_n {c : Nat} (h : aTwo c) : (¬ c = 114) ∧ (¬ c = 100) ∧ ¬ c = 122 := by omega
theorem nIne {a b : Nat} (ha : a < 2 ^ 31) (hb : b < 2 ^ 31) (h : ¬ a = b) : ¬ nI a = nI b := fun q => h ((ja_eq ha hb).1 q)
theorem ac_T {L n i : Nat} {d : Nat → Nat} {σ τ : jT} (h : bX L 60 d σ) (hn : n ≤ 40) (hm : mX L 60 i d τ) (h1 : i < 60) (h2 : i < L) (k1 : aTwo (d i)) :
    ∃ v j τ', f_X1_takeAct_1 (gs σ 67 (nI i)) = some (v, gs σ 67 (nI j)) ∧ f_X11_readAct_T (nI (3 * n)) τ = some (0, τ') ∧ kJ n τ τ' ∧
      ((aOk L d i ∧ v = 1 ∧ j = aEnd L d i ∧ mX L 60 (aEnd L d i) d τ' ∧ τ'.2 81 (3 * n) = nI (d i) ∧ (¬ d i = 100 → τ'.2 81 (3 * n + 1) = aX L d i) ∧ (aTwo (d i) → τ'.2 81 (3 * n + 2) = nI (d (i + 2) - 48))) ∨ (v = 0 ∧ j ≤ 62 ∧ τ'.1 4177 = nI j)) := by
  have hb := (h.2.2.2.2 i h2).1
  obtain ⟨-, -, -, e1, e2, e3, ew, -⟩ := id hm
  have hh : f_X11_here_T τ = some (nI (d i), τ) := by rw [m_here hm, sgn_t h1 h2]
  obtain ⟨t1, t2, t3⟩ := aT_n k1
  rw [c_actT h h1 h2 k1, m_readK hh (by rcases k1 with e | e | e | e <;> rw [e] <;> decide)]
  unfold f_X11_readAct_T_b55
  have hX := mA_X (n := n) (c := d i) hm h1
  have eA : gA (gs τ 4176 (nI i + 1)) 81 (3 * n) (nI (d i)) = mA τ n i (d i) := by rw [nS]; rfl
  rw [if_pos (ja_in (by omega) (by omega)), if_pos (show ¬ nI (d i) = 114 from nIne (b := 114) (by omega) (by omega) t1), if_neg (show ¬ nI (d i) = 100 from nIne (b := 100) (by omega) (by omega) t2), nI_clamp (by omega), e3, eA, m_dig9 hX]
  by_cases c : sIn L 60 d (i + 1) 48 57
  · rw [if_pos c, if_pos c]
    simp only [bnd]
    have hX2 : mX L 60 (i + 2) d (gA (gs (mA τ n i (d i)) 4176 (nI (i + 1 + 1))) 81 (3 * n + 1) (nI (d (i + 1) - 48))) := mX_81 (mX_1 hX (by omega))
    rw [nS, if_pos (ja_in (by omega) (by omega)), nI_clamp (by omega), m_b115T k1, m_139 hn hX2]
    by_cases c2 : sIn L 60 d (i + 2) 48 57
    · rw [if_pos c2, if_pos c2]
      refine ⟨_, _, _, rfl, rfl, kJ_trans (kJ_trans (kJ_trans (kJ_trans (mA_k τ n i (d i)) (kJ_g (Or.inl rfl))) (kJ_81 (by omega) (by omega))) (kJ_g (Or.inl rfl))) (kJ_81 (by omega) (by omega)), Or.inl ⟨⟨h1, h2, Or.inl ⟨k1, c, c2⟩⟩, rfl, (aEnd_T k1).symm, ?_, ?_, fun _ => ?_, fun _ => g81_eq _ _ _⟩⟩
      · rw [aEnd_T k1]
        exact mX_81 (mX_1 hX2 (by omega))
      · rw [g81_ne _ _ (by omega)]
        exact (g81_ne _ _ (by omega)).trans (mA_81 τ n i (d i))
      · rw [g81_ne _ _ (by omega), aX_N t1]
        exact g81_eq _ _ _
    · rw [if_neg c2, if_neg c2]
      exact ⟨_, _, _, rfl, rfl, kJ_trans (kJ_trans (kJ_trans (kJ_trans (mA_k τ n i (d i)) (kJ_g (Or.inl rfl))) (kJ_81 (by omega) (by omega))) (kJ_g (Or.inr rfl))) (kJ_81 (by omega) (by omega)), Or.inr ⟨rfl, by omega, rfl⟩⟩
  · rw [if_neg c, if_neg c]
    simp only [bnd]
    rw [nS, if_pos (ja_in (by omega) (by omega)), nI_clamp (by omega), m_b115T k1, m_139n hn (show ¬ (gA (gs (mA τ n i (d i)) 4177 (nI (i + 1))) 81 (3 * n + 1) 0).1 4177 = -1 from ja_neg1 (k := i + 1) (by omega))]
    exact ⟨_, _, _, rfl, rfl, kJ_trans (kJ_trans (kJ_trans (mA_k τ n i (d i)) (kJ_g (Or.inr rfl))) (kJ_81 (by omega) (by omega))) (kJ_81 (by omega) (by omega)), Or.inr ⟨rfl, by omega, rfl⟩⟩
theorem ac_D {L n i : Nat} {d : Nat → Nat} {σ τ : jT} (h : bX L 60 d σ) (hn : n ≤ 40) (hm : mX L 60 i d τ) (h1 : i < 60) (h2 : i < L) (k1 : d i = 100) :
    ∃ v j τ', f_X1_takeAct_1 (gs σ 67 (nI i)) = some (v, gs σ 67 (nI j)) ∧ f_X11_readAct_T (nI (3 * n)) τ = some (0, τ') ∧ kJ n τ τ' ∧
      ((aOk L d i ∧ v = 1 ∧ j = aEnd L d i ∧ mX L 60 (aEnd L d i) d τ' ∧ τ'.2 81 (3 * n) = nI (d i) ∧ (¬ d i = 100 → τ'.2 81 (3 * n + 1) = aX L d i) ∧ (aTwo (d i) → τ'.2 81 (3 * n + 2) = nI (d (i + 2) - 48))) ∨ (v = 0 ∧ j ≤ 62 ∧ τ'.1 4177 = nI j)) := by
  obtain ⟨-, -, -, e1, e2, e3, ew, -⟩ := id hm
  have hh : f_X11_here_T τ = some (nI (d i), τ) := by rw [m_here hm, sgn_t h1 h2]
  have hX := mA_X (n := n) (c := d i) hm h1
  have eA : gA (gs τ 4176 (nI i + 1)) 81 (3 * n) (nI (d i)) = mA τ n i (d i) := by rw [nS]; rfl
  rw [c_actD h h1 h2 k1, m_readK hh (by rw [k1]; decide)]
  unfold f_X11_readAct_T_b55
  rw [if_pos (ja_in (by omega) (by omega)), if_pos (show ¬ nI (d i) = 114 by rw [k1]; decide), if_pos (show nI (d i) = 100 by rw [k1]; rfl), nI_clamp (by omega), e3, eA, m_b115N (show ¬ nI (d i) = 109 by rw [k1]; decide) (show ¬ nI (d i) = 119 by rw [k1]; decide) (show ¬ nI (d i) = 108 by rw [k1]; decide) (show ¬ nI (d i) = 120 by rw [k1]; decide)]
  refine ⟨_, _, _, rfl, rfl, mA_k τ n i (d i), Or.inl ⟨⟨h1, h2, Or.inr (Or.inl k1)⟩, rfl, (aEnd_D k1).symm, ?_, mA_81 τ n i (d i), fun q => absurd k1 q, fun q => absurd k1 (aT_n q).2.1⟩⟩
  rw [aEnd_D k1]; exact hX
theorem ac_Z {L n i : Nat} {d : Nat → Nat} {σ τ : jT} (h : bX L 60 d σ) (hn : n ≤ 40) (hm : mX L 60 i d τ) (h1 : i < 60) (h2 : i < L) (k1 : d i = 122) :
    ∃ v j τ', f_X1_takeAct_1 (gs σ 67 (nI i)) = some (v, gs σ 67 (nI j)) ∧ f_X11_readAct_T (nI (3 * n)) τ = some (0, τ') ∧ kJ n τ τ' ∧
      ((aOk L d i ∧ v = 1 ∧ j = aEnd L d i ∧ mX L 60 (aEnd L d i) d τ' ∧ τ'.2 81 (3 * n) = nI (d i) ∧ (¬ d i = 100 → τ'.2 81 (3 * n + 1) = aX L d i) ∧ (aTwo (d i) → τ'.2 81 (3 * n + 2) = nI (d (i + 2) - 48))) ∨ (v = 0 ∧ j ≤ 62 ∧ τ'.1 4177 = nI j)) := by
  obtain ⟨-, -, -, e1, e2, e3, ew, -⟩ := id hm
  have hh : f_X11_here_T τ = some (nI (d i), τ) := by rw [m_here hm, sgn_t h1 h2]
  have hX := mA_X (n := n) (c := d i) hm h1
  have eA : gA (gs τ 4176 (nI i + 1)) 81 (3 * n) (nI (d i)) = mA τ n i (d i) := by rw [nS]; rfl
  have e115 : ∀ t, f_X11_readAct_T_b115 (nI (3 * n)) (nI (d i)) t = some (0, t) := fun t => m_b115N (show ¬ nI (d i) = 109 by rw [k1]; decide) (show ¬ nI (d i) = 119 by rw [k1]; decide) (show ¬ nI (d i) = 108 by rw [k1]; decide) (show ¬ nI (d i) = 120 by rw [k1]; decide) _ t
  rw [c_actZ h h1 h2 k1, m_readK hh (by rw [k1]; decide)]
  unfold f_X11_readAct_T_b55
  rw [if_pos (ja_in (by omega) (by omega)), if_pos (show ¬ nI (d i) = 114 by rw [k1]; decide), if_neg (show ¬ nI (d i) = 100 by rw [k1]; decide), nI_clamp (by omega), e3, eA, m_dig9 hX]
  by_cases c : sIn L 60 d (i + 1) 48 57
  · rw [if_pos c, if_pos c]
    simp only [bnd]
    rw [nS, if_pos (ja_in (by omega) (by omega)), nI_clamp (by omega), e115]
    refine ⟨_, _, _, rfl, rfl, kJ_trans (kJ_trans (mA_k τ n i (d i)) (kJ_g (Or.inl rfl))) (kJ_81 (by omega) (by omega)), Or.inl ⟨⟨h1, h2, Or.inr (Or.inr (Or.inl ⟨k1, c⟩))⟩, rfl, (aEnd_Z k1).symm, ?_, ?_, fun _ => ?_, fun q => absurd k1 (aT_n q).2.2⟩⟩
    · rw [aEnd_Z k1]
      exact mX_81 (mX_1 hX (by omega))
    · rw [g81_ne _ _ (by omega)]
      exact mA_81 τ n i (d i)
    · rw [aX_N (by omega)]
      exact g81_eq _ _ _
  · rw [if_neg c, if_neg c]
    simp only [bnd]
    rw [nS, if_pos (ja_in (by omega) (by omega)), nI_clamp (by omega), e115]
    exact ⟨_, _, _, rfl, rfl, kJ_trans (kJ_trans (mA_k τ n i (d i)) (kJ_g (Or.inr rfl))) (kJ_81 (by omega) (by omega)), Or.inr ⟨rfl, by omega, rfl⟩⟩
theorem ac_R {L n i : Nat} {d : Nat → Nat} {σ τ : jT} (h : bX L 60 d σ) (hn : n ≤ 40) (hm : mX L 60 i d τ) (h1 : i < 60) (h2 : i < L) (k1 : d i = 114) :
    ∃ v j τ', f_X1_takeAct_1 (gs σ 67 (nI i)) = some (v, gs σ 67 (nI j)) ∧ f_X11_readAct_T (nI (3 * n)) τ = some (0, τ') ∧ kJ n τ τ' ∧
      ((aOk L d i ∧ v = 1 ∧ j = aEnd L d i ∧ mX L 60 (aEnd L d i) d τ' ∧ τ'.2 81 (3 * n) = nI (d i) ∧ (¬ d i = 100 → τ'.2 81 (3 * n + 1) = aX L d i) ∧ (aTwo (d i) → τ'.2 81 (3 * n + 2) = nI (d (i + 2) - 48))) ∨ (v = 0 ∧ j ≤ 62 ∧ τ'.1 4177 = nI j)) := by
  obtain ⟨-, -, -, e1, e2, e3, ew, -⟩ := id hm
  have hh : f_X11_here_T τ = some (nI (d i), τ) := by rw [m_here hm, sgn_t h1 h2]
  have hX := mA_X (n := n) (c := d i) hm h1
  have eA : gA (gs τ 4176 (nI i + 1)) 81 (3 * n) (nI (d i)) = mA τ n i (d i) := by rw [nS]; rfl
  have e115 : ∀ t, f_X11_readAct_T_b115 (nI (3 * n)) (nI (d i)) t = some (0, t) := fun t => m_b115N (show ¬ nI (d i) = 109 by rw [k1]; decide) (show ¬ nI (d i) = 119 by rw [k1]; decide) (show ¬ nI (d i) = 108 by rw [k1]; decide) (show ¬ nI (d i) = 120 by rw [k1]; decide) _ t
  have hD := nD_le (L := L) (M := 60) (d := d) (i := i + 1) (by omega) (by omega)
  rw [c_actR h h1 h2 k1, m_readK hh (by rw [k1]; decide)]
  unfold f_X11_readAct_T_b55
  rw [if_pos (ja_in (by omega) (by omega)), if_neg (show ¬ ¬ nI (d i) = 114 by rw [k1]; decide), nI_clamp (by omega), e3, eA, m_num2 hX (by omega)]
  by_cases c : nD L 60 d (i + 1) = 0
  · rw [if_pos c, if_pos c]
    simp only [bnd]
    rw [nS, if_pos (ja_in (by omega) (by omega)), nI_clamp (by omega), e115]
    refine ⟨_, _, _, rfl, rfl, kJ_trans (kJ_trans (mA_k τ n i (d i)) (kJ_g (Or.inr rfl))) (kJ_81 (by omega) (by omega)), Or.inr ⟨rfl, by omega, ?_⟩⟩
    rw [c]; rfl
  · rw [if_neg c, if_neg c]
    simp only [bnd]
    rw [nS, if_pos (ja_in (by omega) (by omega)), nI_clamp (by omega), e115]
    refine ⟨_, _, _, rfl, rfl, kJ_trans (kJ_trans (mA_k τ n i (d i)) (kJ_g (Or.inl rfl))) (kJ_81 (by omega) (by omega)), Or.inl ⟨⟨h1, h2, Or.inr (Or.inr (Or.inr ⟨k1, c⟩))⟩, rfl, (aEnd_R k1).symm, ?_, ?_, fun _ => ?_, fun q => absurd k1 (aT_n q).1⟩⟩
    · rw [aEnd_R k1]
      exact mX_81 (mX_1 hX (by omega))
    · rw [g81_ne _ _ (by omega)]
      exact mA_81 τ n i (d i)
    · rw [aX_R k1]
      exact g81_eq _ _ _
theorem ac_both {L n i : Nat} {d : Nat → Nat} {σ τ : jT} (h : bX L 60 d σ) (hn : n ≤ 40) (hi : i ≤ 60) (hm : mX L 60 i d τ) :
    ∃ v j τ', f_X1_takeAct_1 (gs σ 67 (nI i)) = some (v, gs σ 67 (nI j)) ∧ f_X11_readAct_T (nI (3 * n)) τ = some (0, τ') ∧ kJ n τ τ' ∧
      ((aOk L d i ∧ v = 1 ∧ j = aEnd L d i ∧ mX L 60 (aEnd L d i) d τ' ∧ τ'.2 81 (3 * n) = nI (d i) ∧ (¬ d i = 100 → τ'.2 81 (3 * n + 1) = aX L d i) ∧ (aTwo (d i) → τ'.2 81 (3 * n + 2) = nI (d (i + 2) - 48))) ∨ (v = 0 ∧ j ≤ 62 ∧ τ'.1 4177 = nI j)) := by
  by_cases hs : i < 60 ∧ i < L
  · obtain ⟨h1, h2⟩ := hs
    by_cases k1 : aTwo (d i)
    · exact ac_T h hn hm h1 h2 k1
    by_cases k2 : d i = 100
    · exact ac_D h hn hm h1 h2 k2
    by_cases k3 : d i = 122
    · exact ac_Z h hn hm h1 h2 k3
    by_cases k4 : d i = 114
    · exact ac_R h hn hm h1 h2 k4
    have hb := (h.2.2.2.2 i h2).1
    have key : ∀ b, b < 256 → ¬ d i = b → ¬ sgn L 60 d i = nI b := fun b hb2 hne => by rw [sgn_t h1 h2]; exact nIne (by omega) (by omega) hne
    have k5 := key 109 (by omega) (by omega)
    have k6 := key 100 (by omega) (by omega)
    have k7 := key 114 (by omega) (by omega)
    have k8 := key 119 (by omega) (by omega)
    have k9 := key 108 (by omega) (by omega)
    have ka := key 122 (by omega) (by omega)
    have kb := key 120 (by omega) (by omega)
    obtain ⟨τ', r1, r2, r3⟩ := m_readN hm hn hi k5 k6 k7 k8 k9 ka kb
    exact ⟨0, i, τ', c_actN h hi k5 k6 k7 k8 k9 ka kb, r1, r2, Or.inr ⟨rfl, by omega, r3⟩⟩
  · have e : sgn L 60 d i = -1 := if_neg hs
    have k5 : ¬ sgn L 60 d i = 109 := by rw [e]; decide
    have k6 : ¬ sgn L 60 d i = 100 := by rw [e]; decide
    have k7 : ¬ sgn L 60 d i = 114 := by rw [e]; decide
    have k8 : ¬ sgn L 60 d i = 119 := by rw [e]; decide
    have k9 : ¬ sgn L 60 d i = 108 := by rw [e]; decide
    have ka : ¬ sgn L 60 d i = 122 := by rw [e]; decide
    have kb : ¬ sgn L 60 d i = 120 := by rw [e]; decide
    obtain ⟨τ', r1, r2, r3⟩ := m_readN hm hn hi k5 k6 k7 k8 k9 ka kb
    exact ⟨0, i, τ', c_actN h hi k5 k6 k7 k8 k9 ka kb, r1, r2, Or.inr ⟨rfl, by omega, r3⟩⟩
