/-! ===== what the small methods answer ===== -/
theorem vd_cases (x : Int32) {n : Nat} (hn : n < 2 ^ 31) : (∃ k, k < n ∧ x = nI k) ∨ (x < 0 ∨ nI n ≤ x) := by
  by_cases h0 : x < 0
  · exact Or.inr (Or.inl h0)
  · by_cases h1 : x < nI n
    · exact Or.inl (ja_of h0 h1 hn)
    · exact Or.inr (Or.inr (Int32.not_lt.mp h1))
section CACC
variable {σ τ : jT} {P Q k r w : Nat} {x : Int32}
theorem c_hp_t (h : σ.1 195 = nI P) (hP : P ≤ 10) (hk : k < P) : f_X3_hasPlace (nI k) σ = some (1, σ) := by
  unfold f_X3_hasPlace
  rw [if_neg (nI_pos (by omega)), h, if_neg (nI_ge hk (by omega))]
theorem c_hp_f (h : σ.1 195 = nI P) (hx : x < 0 ∨ nI P ≤ x) : f_X3_hasPlace x σ = some (0, σ) := by
  unfold f_X3_hasPlace
  by_cases h0 : x < 0
  · rw [if_pos h0]
  · rw [if_neg h0, h, if_pos (hx.resolve_left h0)]
theorem c_hr_t (h : σ.1 197 = nI Q) (hQ : Q ≤ 6) (hk : k < Q) : f_X3_hasRider (nI k) σ = some (1, σ) := by
  unfold f_X3_hasRider
  rw [if_neg (nI_pos (by omega)), h, if_neg (nI_ge hk (by omega))]
theorem c_hr_f (h : σ.1 197 = nI Q) (hx : x < 0 ∨ nI Q ≤ x) : f_X3_hasRider x σ = some (0, σ) := by
  unfold f_X3_hasRider
  by_cases h0 : x < 0
  · rw [if_pos h0]
  · rw [if_neg h0, h, if_pos (hx.resolve_left h0)]
theorem c_ways_t (h : σ.1 195 = nI P) (hP : P ≤ 10) (hk : k < P) : f_X3_waysAt (nI k) σ = some (σ.2 4 k, σ) := by
  unfold f_X3_waysAt
  rw [c_hp_t h hP hk]
  simp only [Option.bind_some]
  rw [if_neg (by decide), if_pos (ja_in (by omega) (by omega)), nI_clamp (by omega)]
theorem c_ways_f (h : σ.1 195 = nI P) (hx : x < 0 ∨ nI P ≤ x) : f_X3_waysAt x σ = some (0, σ) := by
  unfold f_X3_waysAt
  rw [c_hp_f h hx]
  rfl
theorem c_mind_t (h : σ.1 197 = nI Q) (hQ : Q ≤ 6) (hk : k < Q) : f_X3_mindOf (nI k) σ = some (σ.2 6 k, σ) := by
  unfold f_X3_mindOf
  rw [c_hr_t h hQ hk]
  simp only [Option.bind_some]
  rw [if_neg (by decide), if_pos (ja_in (by omega) (by omega)), nI_clamp (by omega)]
theorem c_get {a : Nat} (ha : a ≤ 18) (hr : r < 6) : f_X8_get (nI a) (nI r) σ = some (σ.2 13 (a + r), σ) := by
  unfold f_X8_get
  rw [if_neg (nI_pos (by omega)), if_neg (show ¬ (6 : Int32) ≤ nI r from nI_ge (b := 6) hr (by omega)), ja_add, if_pos (ja_in (by omega) (by omega)), nI_clamp (by omega)]
theorem c_spentOf (hr : r < 6) : f_X8_spentOf (nI r) σ = some (σ.2 13 r, σ) := by
  show (f_X8_get (nI 0) (nI r) σ).bind _ = _
  rw [c_get (by omega) hr, Nat.zero_add]; rfl
theorem c_placeOf (hr : r < 6) : f_X8_placeOf (nI r) σ = some (σ.2 13 (6 + r), σ) := by
  show (f_X8_get (nI 6) (nI r) σ).bind _ = _
  rw [c_get (by omega) hr]; rfl
theorem c_convOf (hr : r < 6) : f_X8_convincerOf (nI r) σ = some (σ.2 13 (12 + r), σ) := by
  show (f_X8_get (nI 12) (nI r) σ).bind _ = _
  rw [c_get (by omega) hr]; rfl
theorem c_mapOf (hr : r < 6) : f_X8_mapOf (nI r) σ = some (σ.2 13 (18 + r), σ) := by
  show (f_X8_get (nI 18) (nI r) σ).bind _ = _
  rw [c_get (by omega) hr]; rfl
theorem c_set {a : Nat} {v : Int32} (ha : a ≤ 18) (hr : r < 6) : f_X8_set (nI a) (nI r) v σ = some (0, gA σ 13 (a + r) v) := by
  unfold f_X8_set
  rw [if_neg (nI_pos (by omega)), if_neg (show ¬ (6 : Int32) ≤ nI r from nI_ge (b := 6) hr (by omega)), ja_add, if_pos (ja_in (by omega) (by omega)), nI_clamp (by omega)]
theorem c_setSpent {v : Int32} (hr : r < 6) : f_X8_setSpent (nI r) v σ = some (0, gA σ 13 r v) := by
  show (f_X8_set (nI 0) (nI r) v σ).bind _ = _
  rw [c_set (by omega) hr, Nat.zero_add]; rfl
theorem c_setPlace {v : Int32} (hr : r < 6) : f_X8_setPlace (nI r) v σ = some (0, gA σ 13 (6 + r) v) := by
  show (f_X8_set (nI 6) (nI r) v σ).bind _ = _
  rw [c_set (by omega) hr]; rfl
theorem c_setConv {v : Int32} (hr : r < 6) : f_X8_setConvincer (nI r) v σ = some (0, gA σ 13 (12 + r) v) := by
  show (f_X8_set (nI 12) (nI r) v σ).bind _ = _
  rw [c_set (by omega) hr]; rfl
theorem c_guide_n (hr : r < 6) (hb : σ.2 13 (12 + r) = -1) : f_X8_guidingMap (nI r) σ = some (σ.2 13 (18 + r), σ) := by
  unfold f_X8_guidingMap
  rw [c_convOf hr]
  simp only [Option.bind_some]
  rw [hb, if_neg (by decide)]
  unfold f_X8_guidingMap_b17
  rw [c_mapOf hr]; rfl
theorem c_guide_b {b : Nat} (hr : r < 6) (hb6 : b < 6) (hb : σ.2 13 (12 + r) = nI b) : f_X8_guidingMap (nI r) σ = some (σ.2 13 (18 + b), σ) := by
  unfold f_X8_guidingMap
  rw [c_convOf hr]
  simp only [Option.bind_some]
  rw [hb, if_pos (ja_neg1 (by omega))]
  unfold f_X8_guidingMap_b17
  rw [c_mapOf hb6]; rfl
theorem j_dig {M p : Nat} (hM : M < 2 ^ 20) (hp : p < 10) : ((nI M) >>> ((2 * nI p) &&& 31)) &&& 3 = nI (M / 4 ^ p % 4) := by
  have h1 : ∀ p, p < 10 → (((2 * nI p) &&& (31 : Int32)).toBitVec.smod 32).toNat = 2 * p := by decide
  rw [pk_shrN (by omega) _ _ (h1 p hp)]
  have h2 : M / 2 ^ (2 * p) ≤ M := Nat.div_le_self _ _
  rw [pk_andN (by omega) 2 (by decide), Nat.pow_mul]
theorem j_dig3 {M p : Nat} : M / 4 ^ p % 4 < 4 := Nat.mod_lt _ (by decide)
theorem c_viewOf {M : Nat} (h : σ.1 195 = nI P) (hP : P ≤ 10) (hk : k < P) (hw : σ.2 4 k = nI w) (hw3 : w ≤ 3) (hM : M < 2 ^ 20) : f_X3_viewOf (nI M) (nI k) σ = some (if w = 0 then -1 else nI (M / 4 ^ k % 4 % w), σ) := by
  unfold f_X3_viewOf
  rw [c_hp_t h hP hk]
  simp only [Option.bind_some]
  rw [if_neg (by decide), if_pos (ja_in (by omega) (by omega)), nI_clamp (by omega), hw]
  unfold f_X3_viewOf_b18
  by_cases h0 : w = 0
  · subst h0; rw [if_pos rfl]; rfl
  · rw [if_neg (show ¬ nI w ≤ 0 from nI_nle (by omega) (by omega)), if_neg (nI_ne0 (by omega) (by omega)), if_neg h0, j_dig hM (by omega), pk_rem (by have := @j_dig3 M k; omega) (by omega) (by omega)]
theorem c_viewOf_f {y : Int32} (h : σ.1 195 = nI P) (hx : x < 0 ∨ nI P ≤ x) : f_X3_viewOf y x σ = some (-1, σ) := by
  unfold f_X3_viewOf
  rw [c_hp_f h hx]
  rfl
theorem c_leads_t (h : σ.1 195 = nI P) (hP : P ≤ 10) (hk : k < P) (hw : σ.2 4 k = nI w) (hw3 : w ≤ 3) (hr : r < w) : f_X3_leadsTo (nI k) (nI r) σ = some (σ.2 5 (3 * k + r), σ) := by
  unfold f_X3_leadsTo
  rw [c_hp_t h hP hk]
  simp only [Option.bind_some]
  rw [if_neg (by decide), if_neg (nI_pos (by omega)), if_pos (ja_in (by omega) (by omega)), nI_clamp (by omega), hw, if_neg (nI_ge hr (by omega))]
  unfold f_X3_leadsTo_b27
  have e : nI k * 3 + nI r = nI (3 * k + r) := by
    rw [show (3 : Int32) = nI 3 from rfl, pk_mul, ja_add, Nat.mul_comm]
  rw [if_neg (by decide), e, if_pos (ja_in (by omega) (by omega)), nI_clamp (by omega)]
theorem c_leads_f (h : σ.1 195 = nI P) (hP : P ≤ 10) (hk : k < P) (hw : σ.2 4 k = nI w) (hx : x < 0 ∨ nI w ≤ x) : f_X3_leadsTo (nI k) x σ = some (-1, σ) := by
  unfold f_X3_leadsTo
  rw [c_hp_t h hP hk]
  simp only [Option.bind_some]
  rw [if_neg (by decide)]
  by_cases h0 : x < 0
  · rw [if_pos h0]; rfl
  · rw [if_neg h0, if_pos (ja_in (by omega) (by omega)), nI_clamp (by omega), hw, if_pos (hx.resolve_left h0)]; rfl
theorem c_leads_n {y : Int32} (h : σ.1 195 = nI P) (hx : x < 0 ∨ nI P ≤ x) : f_X3_leadsTo x y σ = some (-1, σ) := by
  unfold f_X3_leadsTo
  rw [c_hp_f h hx]
  rfl
/-! the model -/
theorem m_in_t {a b : Nat} (hk1 : a ≤ k) (hk2 : k ≤ b) (hb : b < 2 ^ 31) : f_X11_in (nI k) (nI a) (nI b) τ = some (1, τ) := by
  unfold f_X11_in
  rw [if_neg (nI_nlt hk1 (by omega)), if_neg (nI_nlt hk2 hb)]
theorem m_pred {n : Nat} (hx : x < 0 ∨ nI n ≤ x) (hn : n < 2 ^ 31) : f_X11_in x 0 (nI n - 1) τ = some (0, τ) := by
  unfold f_X11_in
  by_cases h0 : x < 0
  · rw [if_pos h0]
  · rw [if_neg h0, if_pos]
    have h1 := hx.resolve_left h0
    rw [Int32.le_iff_toInt_le, nI_toInt hn] at h1
    rw [Int32.lt_iff_toInt_lt]
    cases n with
    | zero =>
      have : (nI 0 - 1).toInt = -1 := by decide
      omega
    | succ n => rw [nI_pred, nI_toInt (by omega)]; omega
theorem m_inp {n : Nat} (hk : k < n) (hn : n < 2 ^ 31) : f_X11_in (nI k) 0 (nI n - 1) τ = some (1, τ) := by
  cases n with
  | zero => omega
  | succ n => rw [nI_pred]; exact m_in_t (a := 0) (by omega) (by omega) (by omega)
theorem m_isPlace_t (h : τ.1 4161 = nI P) (hP : P ≤ 10) (hk : k < P) : f_X11_isPlace (nI k) τ = some (1, τ) := by
  unfold f_X11_isPlace
  rw [h, m_inp hk (by omega)]; rfl
theorem m_isPlace_f (h : τ.1 4161 = nI P) (hP : P ≤ 10) (hx : x < 0 ∨ nI P ≤ x) : f_X11_isPlace x τ = some (0, τ) := by
  unfold f_X11_isPlace
  rw [h, m_pred hx (by omega)]; rfl
theorem m_isRider_t (h : τ.1 4165 = nI Q) (hQ : Q ≤ 6) (hk : k < Q) : f_X11_isRider (nI k) τ = some (1, τ) := by
  unfold f_X11_isRider
  rw [h, m_inp hk (by omega)]; rfl
theorem m_isRider_f (h : τ.1 4165 = nI Q) (hQ : Q ≤ 6) (hx : x < 0 ∨ nI Q ≤ x) : f_X11_isRider x τ = some (0, τ) := by
  unfold f_X11_isRider
  rw [h, m_pred hx (by omega)]; rfl
end CACC
