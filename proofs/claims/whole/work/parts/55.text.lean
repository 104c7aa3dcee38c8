/-! ===== texts ===== -/
theorem byte_ex (x : Int32) (h1 : -128 ≤ x) (h2 : x ≤ 127) : ∃ d, d < 256 ∧ x &&& 255 = nI d ∧ ((d < 128 ∧ x = nI d) ∨ (128 ≤ d ∧ x < 0)) := by
  have key : ∀ i : Nat, i < 256 → (Int32.ofInt ((i : Int) - 128)) &&& 255 = nI ((i + 128) % 256) ∧ (((i + 128) % 256 < 128 ∧ Int32.ofInt ((i : Int) - 128) = nI ((i + 128) % 256)) ∨ (128 ≤ (i + 128) % 256 ∧ Int32.ofInt ((i : Int) - 128) < 0)) := by decide +kernel
  rw [Int32.le_iff_toInt_le] at h1 h2
  have a1 : (-128 : Int32).toInt = -128 := by decide
  have a2 : (127 : Int32).toInt = 127 := by decide
  rw [a1] at h1
  rw [a2] at h2
  have e : x = Int32.ofInt (((x.toInt + 128).toNat : Int) - 128) := by
    rw [show ((x.toInt + 128).toNat : Int) - 128 = x.toInt by omega, Int32.ofInt_toInt]
  have k := key (x.toInt + 128).toNat (by omega)
  rw [← e] at k
  exact ⟨_, Nat.mod_lt _ (by omega), k⟩
/-- THE TEXT is d, L signs long, on both sides -/
def rX (L : Nat) (d : Nat → Nat) (σ τ : jT) : Prop := L ≤ 80 ∧ σ.1 65 = nI L ∧ ∀ j, j < L → d j < 256 ∧ σ.2 2 j = nI (d j) ∧ (τ.2 71 j) &&& 255 = nI (d j) ∧ ((d j < 128 ∧ τ.2 71 j = nI (d j)) ∨ (128 ≤ d j ∧ τ.2 71 j < 0))
theorem rX_of {σ τ : jT} (h : rT σ τ) : ∃ L d, rX L d σ τ ∧ τ.1 4169 = nI L := by
  obtain ⟨L, hL, t1, t2, t3⟩ := h
  have hex : ∀ j, ∃ d, j < L → d < 256 ∧ σ.2 2 j = nI d ∧ (τ.2 71 j) &&& 255 = nI d ∧ ((d < 128 ∧ τ.2 71 j = nI d) ∨ (128 ≤ d ∧ τ.2 71 j < 0)) := by
    intro j
    by_cases hj : j < L
    · obtain ⟨a1, a2, a3⟩ := t3 j hj
      obtain ⟨d, b1, b2, b3⟩ := byte_ex _ a2 a3
      exact ⟨d, fun _ => ⟨b1, a1.trans b2, b2, b3⟩⟩
    · exact ⟨0, fun q => absurd q hj⟩
  exact ⟨L, fun j => Classical.choose (hex j), ⟨hL, t1, fun j hj => Classical.choose_spec (hex j) hj⟩, t2⟩
/-- the sign at i, as far as M of L signs are seen -/
def sgn (L M : Nat) (d : Nat → Nat) (i : Nat) : Int32 := if i < M ∧ i < L then nI (d i) else -1
theorem sgn_t {L M i : Nat} {d : Nat → Nat} (h1 : i < M) (h2 : i < L) : sgn L M d i = nI (d i) := if_pos ⟨h1, h2⟩
theorem sgn_f {L M i : Nat} {d : Nat → Nat} (h : M ≤ i ∨ L ≤ i) : sgn L M d i = -1 := if_neg (by omega)
/-- the class reads THE TEXT at i -/
def cX (L M i : Nat) (d : Nat → Nat) (σ : jT) : Prop := L ≤ 80 ∧ M ≤ 80 ∧ i ≤ 80 ∧ σ.1 65 = nI L ∧ σ.1 66 = nI M ∧ σ.1 67 = nI i ∧ ∀ j, j < L → d j < 256 ∧ σ.2 2 j = nI (d j)
theorem cX_1 {L M i j : Nat} {d : Nat → Nat} {σ : jT} (h : cX L M i d σ) (hj : j ≤ 80) : cX L M j d (gs σ 67 (nI j)) := ⟨h.1, h.2.1, hj, h.2.2.2.1, h.2.2.2.2.1, rfl, h.2.2.2.2.2.2⟩
theorem c_peek {L M i : Nat} {d : Nat → Nat} {σ : jT} (h : cX L M i d σ) : f_X9_peek σ = some (sgn L M d i, σ) := by
  obtain ⟨hL, hM, hi, e1, e2, e3, e4⟩ := h
  unfold f_X9_peek sgn
  rw [e1, e2, e3]
  by_cases c1 : i < M
  · rw [if_neg (fun c => by have := (ja_le (by omega) (by omega)).1 c; omega)]
    by_cases c2 : i < L
    · rw [if_neg (fun c => by have := (ja_le (by omega) (by omega)).1 c; omega), if_pos (ja_in (by omega) (by omega)), nI_clamp (by omega), if_pos ⟨c1, c2⟩, (e4 i c2).2]
    · rw [if_pos ((ja_le (by omega) (by omega)).2 (by omega)), if_neg (fun q => c2 q.2)]
  · rw [if_pos ((ja_le (by omega) (by omega)).2 (by omega)), if_neg (fun q => c1 q.1)]
theorem sgn_le {L M i : Nat} {d : Nat → Nat} (h : ∀ j, j < L → d j < 256) : sgn L M d i = -1 ∨ ∃ v, v < 256 ∧ i < M ∧ i < L ∧ d i = v ∧ sgn L M d i = nI v := by
  by_cases c : i < M ∧ i < L
  · exact Or.inr ⟨d i, h i c.2, c.1, c.2, rfl, if_pos c⟩
  · exact Or.inl (if_neg c)
/-- the sign at i is one of a .. b -/
abbrev sIn (L M : Nat) (d : Nat → Nat) (i a b : Nat) : Prop := i < M ∧ i < L ∧ a ≤ d i ∧ d i ≤ b
theorem sIn_lt {L M i a b : Nat} {d : Nat → Nat} (h : ∀ j, j < L → d j < 256) (ha : a < 2 ^ 31) (hb : b < 2 ^ 31) : (sIn L M d i a b → ¬ sgn L M d i < nI a ∧ ¬ nI b < sgn L M d i) ∧ (¬ sIn L M d i a b → sgn L M d i < nI a ∨ nI b < sgn L M d i) := by
  unfold sIn
  constructor
  · rintro ⟨c1, c2, c3, c4⟩
    have := h i c2
    rw [sgn_t c1 c2]
    exact ⟨fun q => by have := (ja_lt (by omega) (by omega)).1 q; omega, fun q => by have := (ja_lt (by omega) (by omega)).1 q; omega⟩
  · intro c
    by_cases c1 : i < M ∧ i < L
    · have := h i c1.2
      rw [sgn_t c1.1 c1.2, ja_lt (by omega) (by omega), ja_lt (by omega) (by omega)]
      omega
    · rw [sgn_f (by omega)]
      left
      rw [Int32.lt_iff_toInt_lt, nI_toInt ha]
      have : (-1 : Int32).toInt = -1 := by decide
      omega
theorem c_takeOf {L M i a b : Nat} {d : Nat → Nat} {σ : jT} (h : cX L M i d σ) (ha : a < 2 ^ 31) (hb : b < 2 ^ 31) : f_X9_takeOf (nI a) (nI b) σ = if sIn L M d i a b then some (1, gs σ 67 (nI (i + 1))) else some (0, σ) := by
  have h' := h
  obtain ⟨hL, hM, hi, e1, e2, e3, e4⟩ := h'
  obtain ⟨k1, k2⟩ := sIn_lt (M := M) (i := i) (fun j hj => (e4 j hj).1) ha hb
  unfold f_X9_takeOf
  rw [c_peek h]
  simp only [bnd]
  unfold f_X9_takeOf_b19 f_X9_takeOf_b20
  by_cases c : sIn L M d i a b
  · rw [if_neg (k1 c).1, if_neg (k1 c).2, if_pos c, e3, nS]; rfl
  · rw [if_neg c]
    by_cases z : sgn L M d i < nI a
    · rw [if_pos z]; rfl
    · rw [if_neg z, if_pos ((k2 c).resolve_left z)]; rfl
theorem sIn_eq {L M i a : Nat} {d : Nat → Nat} (h : ∀ j, j < L → d j < 256) (ha : a < 2 ^ 31) : sgn L M d i = nI a ↔ sIn L M d i a a := by
  unfold sIn
  constructor
  · intro e
    by_cases c1 : i < M ∧ i < L
    · have := h i c1.2
      rw [sgn_t c1.1 c1.2, ja_eq (by omega) (by omega)] at e
      omega
    · rw [sgn_f (by omega)] at e
      exact absurd e.symm (ja_neg1 ha)
  · rintro ⟨c1, c2, c3, c4⟩
    rw [sgn_t c1 c2, show d i = a by omega]
theorem c_take {L M i a : Nat} {d : Nat → Nat} {σ : jT} (h : cX L M i d σ) (ha : a < 2 ^ 31) : f_X9_take (nI a) σ = if sIn L M d i a a then some (1, gs σ 67 (nI (i + 1))) else some (0, σ) := by
  have h' := h
  obtain ⟨hL, hM, hi, e1, e2, e3, e4⟩ := h'
  have k := sIn_eq (M := M) (i := i) (fun j hj => (e4 j hj).1) ha
  unfold f_X9_take
  rw [c_peek h]
  simp only [bnd]
  unfold f_X9_take_b13
  by_cases c : sIn L M d i a a
  · rw [if_neg (fun q => q (k.2 c)), if_pos c, e3, nS]; rfl
  · rw [if_pos (fun q => c (k.1 q)), if_neg c]; rfl
theorem c_pos {L M i : Nat} {d : Nat → Nat} {σ : jT} (h : cX L M i d σ) : f_X9_position σ = some (nI i, σ) := by
  unfold f_X9_position
  rw [h.2.2.2.2.2.1]
/-- a text that could end at i: where it goes on -/
theorem c_rest {L M i : Nat} {d : Nat → Nat} {σ : jT} (h : cX L M i d σ) (hi : i ≤ L) (hiM : i ≤ M) : f_X9_goesOn σ = some (if i = L then -1 else nI i, σ) := by
  have h' := h
  obtain ⟨hL, hM, hi80, e1, e2, e3, e4⟩ := h'
  unfold f_X9_goesOn f_X9_isOver
  rw [c_peek h]
  simp only [bnd]
  unfold f_X9_goesOn_b18 f_X9_isCutShort
  by_cases c : i < M ∧ i < L
  · have := (e4 i c.2).1
    rw [sgn_t c.1 c.2, if_pos (ja_neg1 (by omega))]
    simp only [bnd]
    rw [if_neg (show ¬ i = L by omega), e3]; rfl
  · rw [sgn_f (by omega), if_neg (fun q => q rfl)]
    simp only [bnd]
    rw [if_neg (show ¬ (1 : Int32) = 0 by decide), e3, e2, e1]
    by_cases c1 : i < M
    · rw [if_pos ((ja_lt (by omega) (by omega)).2 c1)]
      simp only [bnd]
      rw [iNT, if_pos (show i = L by omega)]
    · rw [if_neg (fun q => c1 ((ja_lt (by omega) (by omega)).1 q))]
      by_cases c2 : L ≤ M
      · rw [if_pos ((ja_le (by omega) (by omega)).2 c2)]
        simp only [bnd]
        rw [iNT, if_pos (show i = L by omega)]
      · rw [if_neg (fun q => c2 ((ja_le (by omega) (by omega)).1 q))]
        simp only [bnd]
        rw [if_pos (show ¬ (1 : Int32) = 0 by decide), if_neg (show ¬ i = L by omega), e3]
theorem c_openX {L M : Nat} {d : Nat → Nat} {σ τ : jT} (h : rX L d σ τ) (hM : M ≤ 80) : f_X9_open (nI M) σ = some (0, gs (gs σ 66 (nI M)) 67 0) ∧ cX L M 0 d (gs (gs σ 66 (nI M)) 67 0) :=
  ⟨rfl, h.1, hM, by omega, h.2.1, rfl, rfl, fun j hj => ⟨(h.2.2 j hj).1, (h.2.2 j hj).2.1⟩⟩
/-! the model -/
def mX (L M i : Nat) (d : Nat → Nat) (τ : jT) : Prop := L ≤ 80 ∧ M ≤ 80 ∧ i ≤ 80 ∧ τ.1 4174 = nI L ∧ τ.1 4175 = nI M ∧ τ.1 4176 = nI i ∧ τ.1 4177 = -1 ∧ ∀ j, j < L → d j < 256 ∧ (τ.2 71 j) &&& 255 = nI (d j) ∧ ((d j < 128 ∧ τ.2 71 j = nI (d j)) ∨ (128 ≤ d j ∧ τ.2 71 j < 0))
theorem mX_1 {L M i j : Nat} {d : Nat → Nat} {τ : jT} (h : mX L M i d τ) (hj : j ≤ 80) : mX L M j d (gs τ 4176 (nI j)) := ⟨h.1, h.2.1, hj, h.2.2.2.1, h.2.2.2.2.1, rfl, h.2.2.2.2.2.2.1, h.2.2.2.2.2.2.2⟩
theorem mX_o {L M i : Nat} {d : Nat → Nat} {τ τ' : jT} (h : mX L M i d τ) (h1 : ∀ z, 4174 ≤ z → z ≤ 4177 → τ'.1 z = τ.1 z) (h2 : τ'.2 71 = τ.2 71) : mX L M i d τ' := by
  unfold mX
  rw [h1 4174 (by omega) (by omega), h1 4175 (by omega) (by omega), h1 4176 (by omega) (by omega), h1 4177 (by omega) (by omega), h2]
  exact h
theorem m_here {L M i : Nat} {d : Nat → Nat} {τ : jT} (h : mX L M i d τ) : f_X11_here_T τ = some (sgn L M d i, τ) := by
  obtain ⟨hL, hM, hi, e1, e2, e3, -, e4⟩ := h
  unfold f_X11_here_T sgn
  rw [e1, e2, e3]
  by_cases c2 : i < L
  · rw [if_neg (fun c => by have := (ja_le (by omega) (by omega)).1 c; omega)]
    by_cases c1 : i < M
    · rw [if_neg (fun c => by have := (ja_le (by omega) (by omega)).1 c; omega), if_pos (ja_in (by omega) (by omega)), nI_clamp (by omega), if_pos ⟨c1, c2⟩, (e4 i c2).2.1]
    · rw [if_pos ((ja_le (by omega) (by omega)).2 (by omega)), if_neg (fun q => c1 q.1)]
  · rw [if_pos ((ja_le (by omega) (by omega)).2 (by omega)), if_neg (fun q => c2 q.2)]
theorem m_fine {τ : jT} (h : τ.1 4177 = -1) : f_X11_fine τ = some (1, τ) := by
  unfold f_X11_fine
  rw [if_neg (fun q => q h)]
theorem m_fine0 {τ : jT} (h : ¬ τ.1 4177 = -1) : f_X11_fine τ = some (0, τ) := by
  unfold f_X11_fine
  rw [if_pos h]
theorem m_fault {x : Int32} {τ : jT} (h : τ.1 4177 = -1) : f_X11_fault x τ = some (0, gs τ 4177 x) := by
  unfold f_X11_fault
  rw [m_fine h]; rfl
theorem m_fault0 {x : Int32} {τ : jT} (h : ¬ τ.1 4177 = -1) : f_X11_fault x τ = some (0, τ) := by
  unfold f_X11_fault
  rw [m_fine0 h]; rfl
theorem m_passes {L M i a : Nat} {d : Nat → Nat} {τ : jT} (h : mX L M i d τ) (ha : a < 2 ^ 31) : f_X11_passes_T (nI a) τ = if sIn L M d i a a then some (1, gs τ 4176 (nI (i + 1))) else some (0, τ) := by
  have h' := h
  obtain ⟨hL, hM, hi, e1, e2, e3, ew, e4⟩ := h'
  have k := sIn_eq (M := M) (i := i) (fun j hj => (e4 j hj).1) ha
  unfold f_X11_passes_T
  rw [m_fine ew]
  simp only [bnd]
  rw [if_neg (show ¬ (1 : Int32) = 0 by decide), m_here h]
  simp only [bnd]
  by_cases c : sIn L M d i a a
  · rw [if_pos (k.2 c), if_pos c, e3, nS]
  · rw [if_neg (fun q => c (k.1 q)), if_neg c]
theorem m_passes0 {x : Int32} {τ : jT} (h : ¬ τ.1 4177 = -1) : f_X11_passes_T x τ = some (0, τ) := by
  unfold f_X11_passes_T
  rw [m_fine0 h]; rfl
theorem m_inS {L M i a b : Nat} {d : Nat → Nat} {τ : jT} (h : ∀ j, j < L → d j < 256) (ha : a < 2 ^ 31) (hb : b < 2 ^ 31) : f_X11_in (sgn L M d i) (nI a) (nI b) τ = some (if sIn L M d i a b then 1 else 0, τ) := by
  obtain ⟨k1, k2⟩ := sIn_lt (M := M) (i := i) h ha hb
  unfold f_X11_in
  by_cases c : sIn L M d i a b
  · rw [if_neg (k1 c).1, if_neg (k1 c).2, if_pos c]
  · rw [if_neg c]
    by_cases z : sgn L M d i < nI a
    · rw [if_pos z]
    · rw [if_neg z, if_pos ((k2 c).resolve_left z)]
theorem m_digit {L M i a b : Nat} {d : Nat → Nat} {τ : jT} (h : mX L M i d τ) (ha : a ≤ 9) (hb : b ≤ 9) : f_X11_digit_T (nI a) (nI b) τ = if sIn L M d i (48 + a) (48 + b) then some (nI (d i) - 48, gs τ 4176 (nI (i + 1))) else some (0, gs τ 4177 (nI i)) := by
  have h' := h
  obtain ⟨hL, hM, hi, e1, e2, e3, ew, e4⟩ := h'
  unfold f_X11_digit_T
  rw [m_fine ew]
  simp only [bnd]
  rw [if_pos (show ¬ (1 : Int32) = 0 by decide), m_here h]
  simp only [bnd]
  rw [show (48 : Int32) + nI a = nI (48 + a) from ja_add 48 a, show (48 : Int32) + nI b = nI (48 + b) from ja_add 48 b, m_inS (fun j hj => (e4 j hj).1) (by omega) (by omega)]
  simp only [bnd]
  by_cases c : sIn L M d i (48 + a) (48 + b)
  · have c2 := c.2.1
    have c4 := c.2.2.2
    rw [if_pos c, if_pos (show ¬ (1 : Int32) = 0 by decide), if_pos c, e3, show nI i + 1 - 1 = nI i by rw [nS, ← nS, Int32.add_sub_cancel], if_pos (ja_in (by omega) (by omega)), nI_clamp (by omega), nS]
    rcases (e4 i c2).2.2 with z | z
    · rw [z.2]
    · omega
  · rw [if_neg c, if_neg (fun q => q rfl), if_neg c, m_fault ew, e3]
    simp only [bnd]
