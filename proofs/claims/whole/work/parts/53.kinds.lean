/-! ===== kinds, editions ===== -/
theorem nS (n : Nat) : nI n + 1 = nI (n + 1) := (nI_succ n).symm
theorem sh1 {Q : Nat} (hQ : Q ≤ 6) : (1 : Int32) <<< (nI Q &&& 31) = nI (2 ^ Q) := by
  have : ∀ Q, Q < 7 → (1 : Int32) <<< (nI Q &&& 31) = nI (2 ^ Q) := by decide
  exact this Q (by omega)
theorem p2_64 {Q : Nat} (hQ : Q ≤ 6) : 2 ^ Q ≤ 64 := by
  have : (2:Nat) ^ Q ≤ 2 ^ 6 := Nat.pow_le_pow_right (by omega) hQ
  omega
theorem c_th_t {Q t : Nat} {σ : jT} (h : σ.1 197 = nI Q) (hQ : Q ≤ 6) (ht : t < 2 ^ Q) : f_X3_hasRiders (nI t) σ = some (1, σ) := by
  have := p2_64 hQ
  unfold f_X3_hasRiders
  rw [if_neg (nI_pos (by omega)), h, sh1 hQ, if_neg (nI_ge ht (by omega))]
theorem c_th_f {Q : Nat} {x : Int32} {σ : jT} (h : σ.1 197 = nI Q) (hQ : Q ≤ 6) (hx : x < 0 ∨ nI (2 ^ Q) ≤ x) : f_X3_hasRiders x σ = some (0, σ) := by
  unfold f_X3_hasRiders
  by_cases h0 : x < 0
  · rw [if_pos h0]
  · rw [if_neg h0, h, sh1 hQ, if_pos (hx.resolve_left h0)]
theorem m_th_t {Q t : Nat} {τ : jT} (h : τ.1 4165 = nI Q) (hQ : Q ≤ 6) (ht : t < 2 ^ Q) : f_X11_areThose (nI t) τ = some (1, τ) := by
  have := p2_64 hQ
  unfold f_X11_areThose
  rw [h, sh1 hQ, m_inp ht (by omega)]; rfl
theorem m_th_f {Q : Nat} {x : Int32} {τ : jT} (h : τ.1 4165 = nI Q) (hQ : Q ≤ 6) (hx : x < 0 ∨ nI (2 ^ Q) ≤ x) : f_X11_areThose x τ = some (0, τ) := by
  have := p2_64 hQ
  unfold f_X11_areThose
  rw [h, sh1 hQ, m_pred hx (by omega)]; rfl
theorem m_has {t q : Nat} {τ : jT} (ht : t < 2 ^ 31) (hq : q < 31) : f_X11_has (nI t) (nI q) τ = some (if t / 2 ^ q % 2 = 1 then 1 else 0, τ) := by
  unfold f_X11_has
  rw [j_bit ht hq]
  have h2 : t / 2 ^ q % 2 < 2 := Nat.mod_lt _ (by omega)
  by_cases c : t / 2 ^ q % 2 = 1
  · rw [if_pos c, c, if_neg (by decide)]
  · rw [if_neg c, show t / 2 ^ q % 2 = 0 by omega, if_pos (by decide)]
/-- how many of those before k hold the view v -/
def kcnt (t : Nat) (vw : Nat → Nat) (v : Nat) : Nat → Nat
  | 0 => 0
  | k + 1 => kcnt t vw v k + if t / 2 ^ k % 2 = 1 ∧ vw k = v then 1 else 0
theorem kcnt_s (t : Nat) (vw : Nat → Nat) (v k : Nat) : kcnt t vw v (k + 1) = kcnt t vw v k + if t / 2 ^ k % 2 = 1 ∧ vw k = v then 1 else 0 := rfl
theorem kcnt_le (t : Nat) (vw : Nat → Nat) (v k : Nat) : kcnt t vw v k ≤ k := by
  induction k with
  | zero => exact Nat.le_refl _
  | succ k ih =>
    unfold kcnt
    split <;> omega
theorem kcnt_zero (t : Nat) (vw : Nat → Nat) (v k : Nat) (h : ∀ r, r < k → vw r ≠ v) : kcnt t vw v k = 0 := by
  induction k with
  | zero => rfl
  | succ k ih =>
    unfold kcnt
    rw [ih (fun r hr => h r (by omega)), if_neg (fun q => h k (by omega) q.2)]
theorem kd_hold {P Q p t w : Nat} {vw : Nat → Nat} {σ : jT} (hQ : Q ≤ 6) (q1 : σ.1 197 = nI Q) (ht : t < 2 ^ Q) (hw : 1 ≤ w) (hv : ∀ r, r < Q → vw r < w ∧ f_X10_viewAt (nI r) (nI p) σ = some (nI (vw r), σ)) {v : Nat} (hv3 : v < 3) (hw3 : w ≤ 3) :
    ∀ m k fu, k + m = Q → m < fu → f_X10_holdersOf_b6 fu (nI v) (nI t) (nI p) (nI (kcnt t vw v k)) (nI k) σ = some (nI (kcnt t vw v Q), σ) := by
  have h64 := p2_64 hQ
  intro m
  induction m with
  | zero =>
    intro k fu hk hf
    obtain ⟨fu, rfl⟩ : ∃ f', fu = f' + 1 := ⟨fu - 1, by omega⟩
    rw [f_X10_holdersOf_b6]
    unfold f_X3_riderCount
    simp only [bnd]
    rw [q1, if_pos ((ja_le (by omega) (by omega)).2 (by omega)), show k = Q by omega]
  | succ m ih =>
    intro k fu hk hf
    obtain ⟨fu, rfl⟩ : ∃ f', fu = f' + 1 := ⟨fu - 1, by omega⟩
    rw [f_X10_holdersOf_b6]
    unfold f_X3_riderCount f_X10_holdersOf_b41
    simp only [bnd]
    rw [q1, if_neg (fun c => by have := (ja_le (by omega) (by omega)).1 c; omega), j_bit (by omega) (by omega), nS]
    have h2 : t / 2 ^ k % 2 < 2 := Nat.mod_lt _ (by omega)
    have e := ih (k + 1) fu (by omega) (by omega)
    have hl := kcnt_le t vw v k
    by_cases c : t / 2 ^ k % 2 = 1
    · rw [c, if_neg (by decide), (hv k (by omega)).2]
      simp only [bnd]
      have hvk := (hv k (by omega)).1
      by_cases c2 : vw k = v
      · rw [if_neg (fun q => q (by rw [c2]))]
        rw [kcnt_s, if_pos ⟨c, c2⟩, ← nS] at e
        exact e
      · rw [if_pos (fun q => c2 ((ja_eq (by omega) (by omega)).1 q))]
        rw [kcnt_s, if_neg (fun q => c2 q.2), Nat.add_zero] at e
        exact e
    · rw [show t / 2 ^ k % 2 = 0 by omega, if_pos (by decide)]
      rw [kcnt_s, if_neg (fun q => c q.1), Nat.add_zero] at e
      exact e
theorem kd_tally {Q p t w : Nat} {vw : Nat → Nat} {τ0 : jT} (hQ : Q ≤ 6) (hp : p < 10) (q1 : τ0.1 4165 = nI Q) (ht : t < 2 ^ Q) (hw : 1 ≤ w) (hw3 : w ≤ 3) (ew : τ0.2 67 p = nI w) (hv : ∀ r, r < Q → vw r < w ∧ ∀ τ : jT, (∀ o, o ≠ 90 → τ.2 o = τ0.2 o) → τ.1 = τ0.1 → f_X11_viewOf_66 (nI r) (nI p) τ = some (nI (vw r), τ)) :
    ∀ m k fu (τ : jT), k + m = Q → m < fu → τ.1 = τ0.1 → (∀ o, o ≠ 90 → τ.2 o = τ0.2 o) → (∀ v, v < 3 → τ.2 90 v = nI (kcnt t vw v k)) → ∃ τ', f_X11_kinds_b45 fu (nI t) (nI p) (nI k) τ = f_X11_kinds_b95 τ' ∧ τ'.1 = τ0.1 ∧ (∀ o, o ≠ 90 → τ'.2 o = τ0.2 o) ∧ ∀ v, v < 3 → τ'.2 90 v = nI (kcnt t vw v Q) := by
  have h64 := p2_64 hQ
  intro m
  induction m with
  | zero =>
    intro k fu τ hk hf h1 h2 h3
    obtain ⟨fu, rfl⟩ : ∃ f', fu = f' + 1 := ⟨fu - 1, by omega⟩
    rw [f_X11_kinds_b45, h1, q1, if_pos ((ja_le (by omega) (by omega)).2 (by omega))]
    exact ⟨τ, rfl, h1, h2, by rw [show Q = k by omega]; exact h3⟩
  | succ m ih =>
    intro k fu τ hk hf h1 h2 h3
    obtain ⟨fu, rfl⟩ : ∃ f', fu = f' + 1 := ⟨fu - 1, by omega⟩
    rw [f_X11_kinds_b45, h1, q1, if_neg (fun c => by have := (ja_le (by omega) (by omega)).1 c; omega), if_pos (ja_in hp (by omega)), nI_clamp (by omega), h2 67 (by decide), ew,
      if_neg (fun c => by have := (ja_le (b := 0) (by omega) (by omega)).1 c; omega), m_has (by omega) (by omega)]
    simp only [bnd]
    unfold f_X11_kinds_b89
    rw [nS]
    have hl := fun v => kcnt_le t vw v k
    by_cases c : t / 2 ^ k % 2 = 1
    · obtain ⟨hvk, hvw⟩ := hv k (by omega)
      rw [if_pos c, if_neg (by decide), hvw τ h2 h1]
      simp only [bnd]
      rw [if_pos (ja_in (by omega) (by omega)), nI_clamp (by omega)]
      refine ih (k + 1) fu _ (by omega) (by omega) h1 (fun o ho => ?_) (fun v hv3 => ?_)
      · rw [← h2 o ho]; exact funext fun j => by rw [ja_gA, if_neg (fun q => ho q.1)]
      · rw [ja_gA]
        unfold kcnt
        by_cases c2 : vw k = v
        · rw [if_pos ⟨rfl, c2.symm⟩, if_pos ⟨c, c2⟩, h3 _ (by omega), c2, nS]
        · rw [if_neg (fun q => c2 q.2.symm), if_neg (fun q => c2 q.2), h3 v hv3]; rfl
    · rw [if_neg c, if_pos (by decide)]
      refine ih (k + 1) fu _ (by omega) (by omega) h1 h2 (fun v hv3 => ?_)
      unfold kcnt
      rw [if_neg (fun q => c q.1), h3 v hv3]; rfl
/-- the model's end: ways beyond what there are hold none -/
theorem kd_tail {c : Nat → Nat} {mi : Nat} {x : Int32} {τ : jT} (hmi : mi < 3) (h3 : ∀ v, v < 3 → c v ≤ 6 ∧ τ.2 90 v = nI (c v)) : ∀ m k fu, k + m = 3 → m < fu → (∀ v, k ≤ v → v < 3 → c v = 0) →
    f_X11_kinds_b103 fu x (nI mi) (nI k) τ = some (x, mRow2 τ (if c mi = 0 then -1 else nI mi) (nI (c mi))) := by
  intro m
  induction m with
  | zero =>
    intro k fu hk hf hz
    obtain ⟨fu, rfl⟩ : ∃ f', fu = f' + 1 := ⟨fu - 1, by omega⟩
    obtain ⟨hc, e⟩ := h3 mi hmi
    rw [f_X11_kinds_b103, if_pos (show (3 : Int32) ≤ nI k from by rw [show k = 3 by omega]; decide), if_pos (ja_in hmi (by omega)), nI_clamp (by omega), e]
    have key : ∀ y, f_X11_kinds_b176 x (nI mi) y (gs τ 4171 0) = some (x, mRow2 τ y (nI (c mi))) := by
      intro y
      unfold f_X11_kinds_b176
      have e1 := m_tell1 τ y
      unfold mRow0 at e1
      rw [e1]
      simp only [bnd]
      rw [if_pos (ja_in hmi (by omega)), nI_clamp (by omega)]
      have e2 : (mRow1 τ y).2 90 mi = nI (c mi) := e
      rw [e2, m_tell2]; rfl
    by_cases z : c mi = 0
    · rw [if_neg (fun q => q (by rw [z]; rfl)), key, if_pos z]
    · rw [if_pos (nI_ne0 (by omega) (by omega)), key, if_neg z]
  | succ m ih =>
    intro k fu hk hf hz
    obtain ⟨fu, rfl⟩ : ∃ f', fu = f' + 1 := ⟨fu - 1, by omega⟩
    obtain ⟨hc, e⟩ := h3 mi hmi
    obtain ⟨hck, ek⟩ := h3 k (by omega)
    rw [f_X11_kinds_b103, if_neg (show ¬ (3 : Int32) ≤ nI k from nI_ge (b := 3) (by omega) (by omega)), if_pos (ja_in (n := 3) (by omega) (by omega)), nI_clamp (by omega), ek, hz k (by omega) (by omega), if_pos (by decide)]
    unfold f_X11_kinds_b125 f_X11_kinds_b148
    rw [if_pos (ja_in (n := 3) (by omega) (by omega)), if_pos (ja_in hmi (by omega)), nI_clamp (by omega), nI_clamp (by omega), ek, e, hz k (by omega) (by omega), if_pos ((ja_le (by omega) (by omega)).2 (by omega)), nS]
    have := ih (k + 1) fu (by omega) (by omega) (fun v h1 h2 => hz v (by omega) h2)
    rw [show x + 0 = x from Int32.add_zero x]
    exact this
theorem kd_both {P p t w : Nat} {c : Nat → Nat} {σ τ : jT} (p1 : σ.1 195 = nI P) (hP : P ≤ 10) (hp : p < P) (ew : σ.2 4 p = nI w) (hw : w ≤ 3) (hh : ∀ v, v < w → f_X10_holdersOf (nI v) (nI t) (nI p) σ = some (nI (c v), σ)) (h3 : ∀ v, v < 3 → c v ≤ 6 ∧ τ.2 90 v = nI (c v)) (hz : ∀ v, w ≤ v → v < 3 → c v = 0) :
    ∀ m k fu fu' f mi (x4 x5 : Int32), k + m = w → m < fu → 3 - k < fu' → mi < 3 → ((k = 0 ∧ mi = 0 ∧ x4 = 0 ∧ x5 = -1) ∨ (x4 = nI (c mi) ∧ x5 = if c mi = 0 then -1 else nI mi)) →
    ∃ r a b, f_X10_kinds_b35 fu (nI t) (nI p) (nI f) x4 x5 (nI k) σ = some (r, cRow2 σ a b) ∧ f_X11_kinds_b103 fu' (nI f) (nI mi) (nI k) τ = some (r, mRow2 τ a b) := by
  intro m
  induction m with
  | zero =>
    intro k fu fu' f mi x4 x5 hk hf hf' hmi hx
    obtain ⟨fu, rfl⟩ : ∃ f', fu = f' + 1 := ⟨fu - 1, by omega⟩
    rw [f_X10_kinds_b35, c_ways_t p1 hP hp, ew]
    simp only [bnd]
    rw [if_pos ((ja_le (by omega) (by omega)).2 (by omega)), c_tell2, kd_tail hmi h3 (3 - k) k fu' (by omega) (by omega) (fun v h1 h2 => hz v (by omega) h2)]
    have hx2 : x4 = nI (c mi) ∧ x5 = if c mi = 0 then -1 else nI mi := by
      rcases hx with ⟨z, rfl, rfl, rfl⟩ | hx
      · have := hz 0 (by omega) (by omega)
        rw [this]; exact ⟨rfl, rfl⟩
      · exact hx
    exact ⟨nI f, x5, x4, rfl, by rw [hx2.1, hx2.2]⟩
  | succ m ih =>
    intro k fu fu' f mi x4 x5 hk hf hf' hmi hx
    obtain ⟨fu, rfl⟩ : ∃ f', fu = f' + 1 := ⟨fu - 1, by omega⟩
    obtain ⟨fu', rfl⟩ : ∃ f', fu' = f' + 1 := ⟨fu' - 1, by omega⟩
    obtain ⟨hc, e⟩ := h3 mi hmi
    obtain ⟨hck, ek⟩ := h3 k (by omega)
    rw [f_X10_kinds_b35, c_ways_t p1 hP hp, ew]
    simp only [bnd]
    rw [if_neg (fun c => by have := (ja_le (by omega) (by omega)).1 c; omega), hh k (by omega)]
    simp only [bnd]
    rw [f_X11_kinds_b103, if_neg (show ¬ (3 : Int32) ≤ nI k from nI_ge (b := 3) (by omega) (by omega)), if_pos (ja_in (n := 3) (by omega) (by omega)), nI_clamp (by omega), ek]
    have hC : ∀ s : Int32, f_X10_kinds_b69 (f_X10_kinds_b35 fu) (nI t) (nI p) x4 x5 (nI k) (nI (c k)) s (nI f) σ = f_X10_kinds_b35 fu (nI t) (nI p) (nI f + s) (if nI (c k) ≤ x4 then x4 else nI (c k)) (if nI (c k) ≤ x4 then x5 else nI k) (nI (k + 1)) σ := by
      intro s
      unfold f_X10_kinds_b69 f_X10_kinds_b86
      rw [nS]
      by_cases z : nI (c k) ≤ x4
      · rw [if_pos z, if_pos z, if_pos z]
      · rw [if_neg z, if_neg z, if_neg z]
    have hM : ∀ s : Int32, f_X11_kinds_b125 (f_X11_kinds_b103 fu') (nI mi) (nI k) s (nI f) τ = f_X11_kinds_b103 fu' (nI f + s) (nI (if c k ≤ c mi then mi else k)) (nI (k + 1)) τ := by
      intro s
      unfold f_X11_kinds_b125 f_X11_kinds_b148
      rw [if_pos (ja_in (n := 3) (by omega) (by omega)), if_pos (ja_in hmi (by omega)), nI_clamp (by omega), nI_clamp (by omega), ek, e, nS]
      by_cases z : c k ≤ c mi
      · rw [if_pos ((ja_le (by omega) (by omega)).2 z), if_pos z]
      · rw [if_neg (fun q => z ((ja_le (by omega) (by omega)).1 q)), if_neg z]
    have hX : (if nI (c k) ≤ x4 then x4 else nI (c k)) = nI (c (if c k ≤ c mi then mi else k)) ∧ (if nI (c k) ≤ x4 then x5 else nI k) = if c (if c k ≤ c mi then mi else k) = 0 then -1 else nI (if c k ≤ c mi then mi else k) := by
      rcases hx with ⟨rfl, rfl, rfl, rfl⟩ | ⟨rfl, rfl⟩
      · rw [if_pos (Nat.le_refl (c 0))]
        by_cases z : c 0 = 0
        · rw [z, if_pos (by decide), if_pos (by decide)]; exact ⟨rfl, rfl⟩
        · have : ¬ nI (c 0) ≤ 0 := fun q => by have := (ja_le (b := 0) (by omega) (by omega)).1 q; omega
          rw [if_neg this, if_neg this, if_neg z]; exact ⟨rfl, rfl⟩
      · by_cases z : c k ≤ c mi
        · have z' := (ja_le (a := c k) (b := c mi) (by omega) (by omega)).2 z
          rw [if_pos z', if_pos z', if_pos z]; exact ⟨rfl, rfl⟩
        · have z' : ¬ nI (c k) ≤ nI (c mi) := fun q => z ((ja_le (by omega) (by omega)).1 q)
          rw [if_neg z', if_neg z', if_neg z, if_neg (by omega)]; exact ⟨rfl, rfl⟩
    have hmi' : (if c k ≤ c mi then mi else k) < 3 := by split <;> omega
    by_cases z : c k = 0
    · have z' : nI (c k) ≤ 0 := by rw [z]; decide
      rw [if_pos z', if_pos z', hC, hM]
      rw [show nI f + 0 = nI f from Int32.add_zero _]
      exact ih (k + 1) fu fu' f _ _ _ (by omega) (by omega) (by omega) hmi' (Or.inr hX)
    · have z' : ¬ nI (c k) ≤ 0 := fun q => by have := (ja_le (b := 0) (by omega) (by omega)).1 q; omega
      rw [if_neg z', if_neg z', hC, hM, nS]
      exact ih (k + 1) fu fu' (f + 1) _ _ _ (by omega) (by omega) (by omega) hmi' (Or.inr hX)
theorem kd_zero {x : Int32} {p : Int32} : ∀ τ : jT, ∃ τ', f_X11_kinds_b25 1000 x p 0 τ = f_X11_kinds_b45 1000 x p 0 τ' ∧ τ'.1 = τ.1 ∧ (∀ o, o ≠ 90 → τ'.2 o = τ.2 o) ∧ ∀ v, v < 3 → τ'.2 90 v = 0 := by
  intro τ
  refine ⟨gA (gA (gA τ 90 0 0) 90 1 0) 90 2 0, ?_, rfl, fun o ho => funext fun j => ?_, fun v hv => ?_⟩
  · rw [f_X11_kinds_b25, if_neg (by decide), if_pos (by decide), f_X11_kinds_b25, if_neg (by decide), if_pos (by decide), f_X11_kinds_b25, if_neg (by decide), if_pos (by decide), f_X11_kinds_b25, if_pos (by decide)]
    rfl
  · rw [ja_gA, if_neg (fun q => ho q.1), ja_gA, if_neg (fun q => ho q.1), ja_gA, if_neg (fun q => ho q.1)]
  · rcases (show v = 0 ∨ v = 1 ∨ v = 2 by omega) with rfl | rfl | rfl <;> rfl
theorem eq_kinds {n P Q : Nat} {σ τ : jT} (h : rAll n P Q σ τ) (x y : Int32) : rEq n (f_X10_kinds x y σ) (f_X11_kinds x y τ) := by
  have h0 : rAll n P Q σ (gs τ 4172 0) := rAll_core h rfl rfl
  have hth : (gs τ 4172 0).1 4172 = 0 := rfl
  obtain ⟨-, ⟨hP, p1, p2, -, hl, -⟩, ⟨hQ, q1, q2, -⟩, -⟩ := id h0
  have h64 := p2_64 hQ
  unfold f_X10_kinds f_X11_kinds
  rcases vd_cases x (n := 2 ^ Q) (by omega) with ⟨t, ht, rfl⟩ | hx
  rotate_left
  · rw [c_th_f q1 hQ hx, m_th_f q2 hQ hx]
    simp only [bnd]
    exact rEq_same h rfl rfl rfl rfl rfl
  rw [c_th_t q1 hQ ht, m_th_t q2 hQ ht]
  simp only [bnd]
  rw [if_neg (by decide), if_neg (by decide)]
  rcases vd_cases y (n := P) (by omega) with ⟨p, hp, rfl⟩ | hy
  rotate_left
  · rw [c_hp_f p1 hy, m_isPlace_f p2 hP hy]
    simp only [bnd]
    exact rEq_same h rfl rfl rfl rfl rfl
  rw [c_hp_t p1 hP hp, m_isPlace_t p2 hP hp]
  simp only [bnd]
  rw [if_pos (by decide), if_pos (by decide)]
  generalize gs τ 4172 0 = τ at h0 hth p2 q2 hl
  obtain ⟨τ1, e1, f1, f2, f3⟩ := kd_zero (x := nI t) (p := nI p) τ
  rw [e1]
  obtain ⟨w, hw, w1, w2, -⟩ := hl p hp
  have fin : ∀ (c : Nat → Nat) (τ2 : jT), f_X11_kinds_b45 1000 (nI t) (nI p) 0 τ1 = f_X11_kinds_b95 τ2 → τ2.1 = τ.1 → (∀ o, o ≠ 90 → τ2.2 o = τ.2 o) → (∀ v, v < w → f_X10_holdersOf (nI v) (nI t) (nI p) σ = some (nI (c v), σ)) → (∀ v, v < 3 → c v ≤ 6 ∧ τ2.2 90 v = nI (c v)) → (∀ v, w ≤ v → v < 3 → c v = 0) → rEq n (f_X10_kinds_b35 1000 (nI t) (nI p) 0 0 (-1) 0 σ) (f_X11_kinds_b45 1000 (nI t) (nI p) 0 τ1) := by
    intro c τ2 e g1 g2 hh h3 hz
    obtain ⟨r, a, b, ec, em⟩ := kd_both p1 hP hp w1 hw hh h3 hz w 0 1000 1000 0 0 0 (-1) (by omega) (by omega) (by omega) (by omega) (Or.inl ⟨rfl, rfl, rfl, rfl⟩)
    have hc2 : coreM τ2 = coreM τ := by
      unfold coreM
      rw [g1, g2 71 (by decide), g2 67 (by decide), g2 68 (by decide), g2 69 (by decide), g2 70 (by decide), g2 66 (by decide), g2 77 (by decide), g2 79 (by decide), g2 92 (by decide), g2 93 (by decide), g2 94 (by decide), g2 72 (by decide), g2 88 (by decide)]
    refine rEq_row (h := (rAll_core h0 rfl hc2 : rAll n P Q σ τ2)) (r := r) (σ' := cRow2 σ a b) (τ' := mRow2 τ2 a b) ec ?_ rfl rfl (rW2 _ _ _ _) ?_
    · rw [e]; exact em
    · show τ2.1 4172 = 0
      rw [g1]; exact hth
  have h1z : rAll n P Q σ τ1 := by
    refine rAll_core h0 rfl ?_
    unfold coreM
    rw [f1, f2 71 (by decide), f2 67 (by decide), f2 68 (by decide), f2 69 (by decide), f2 70 (by decide), f2 66 (by decide), f2 77 (by decide), f2 79 (by decide), f2 92 (by decide), f2 93 (by decide), f2 94 (by decide), f2 72 (by decide), f2 88 (by decide)]
  by_cases z : w = 0
  · subst z
    refine fin (fun _ => 0) τ1 ?_ f1 f2 (fun v hv => absurd hv (Nat.not_lt_zero _)) (fun v hv => ⟨by omega, f3 v hv⟩) (fun _ _ _ => rfl)
    rw [f_X11_kinds_b45, f1, q2]
    by_cases zQ : nI Q ≤ 0
    · rw [if_pos zQ]
    · have e67 : τ1.2 67 p = 0 := by rw [f2 67 (by decide)]; exact w2
      rw [if_neg zQ, if_pos (ja_in (by omega) (by omega)), nI_clamp (by omega), e67, if_pos (by decide)]
  · -- the view of each rider
    have hv : ∃ vw : Nat → Nat, ∀ r, r < Q → vw r < w ∧ f_X10_viewAt (nI r) (nI p) σ = some (nI (vw r), σ) ∧ ∀ τ' : jT, (∀ o, o ≠ 90 → τ'.2 o = τ1.2 o) → τ'.1 = τ1.1 → f_X11_viewOf_66 (nI r) (nI p) τ' = some (nI (vw r), τ') := by
      have hex : ∀ r, ∃ v, r < Q → v < w ∧ f_X10_viewAt (nI r) (nI p) σ = some (nI v, σ) ∧ ∀ τ' : jT, (∀ o, o ≠ 90 → τ'.2 o = τ1.2 o) → τ'.1 = τ1.1 → f_X11_viewOf_66 (nI r) (nI p) τ' = some (nI v, τ') := by
        intro r
        by_cases hr : r < Q
        · have key : ∀ τ' : jT, (∀ o, o ≠ 90 → τ'.2 o = τ1.2 o) → τ'.1 = τ1.1 → ∃ v, v < w ∧ f_X10_viewAt (nI r) (nI p) σ = some (nI v, σ) ∧ f_X11_viewOf_66 (nI r) (nI p) τ' = some (nI v, τ') := by
            intro τ' g2 g1
            have hA : rAll n P Q σ τ' := by
              refine rAll_core h1z rfl ?_
              unfold coreM
              rw [g1, g2 71 (by decide), g2 67 (by decide), g2 68 (by decide), g2 69 (by decide), g2 70 (by decide), g2 66 (by decide), g2 77 (by decide), g2 79 (by decide), g2 92 (by decide), g2 93 (by decide), g2 94 (by decide), g2 72 (by decide), g2 88 (by decide)]
            obtain ⟨w', v, hw', w1', -, hv4, ec, em⟩ := v_both hA hr hp
            have ww : w' = w := (ja_eq (by omega) (by omega)).1 (w1'.symm.trans w1)
            subst ww
            obtain ⟨a1, a2⟩ := em (by omega)
            rw [if_neg z] at ec
            exact ⟨v, a1, ec, a2⟩
          obtain ⟨v, a1, a2, a3⟩ := key τ1 (fun _ _ => rfl) rfl
          refine ⟨v, fun _ => ⟨a1, a2, fun τ' g2 g1 => ?_⟩⟩
          obtain ⟨v', b1, b2, b3⟩ := key τ' g2 g1
          have : nI v = nI v' := by
            have := a2.symm.trans b2
            injection this with this
            exact congrArg Prod.fst this
          rw [this]; exact b3
        · exact ⟨0, fun q => absurd q hr⟩
      exact ⟨fun r => Classical.choose (hex r), fun r hr => Classical.choose_spec (hex r) hr⟩
    obtain ⟨vw, hv⟩ := hv
    have q2' : τ1.1 4165 = nI Q := by rw [f1]; exact q2
    have w2' : τ1.2 67 p = nI w := by rw [f2 67 (by decide)]; exact w2
    obtain ⟨τ2, e2, g1, g2, g3⟩ := kd_tally (vw := vw) (τ0 := τ1) hQ (by omega) q2' ht (by omega) hw w2' (fun r hr => ⟨(hv r hr).1, (hv r hr).2.2⟩) Q 0 1000 τ1 (by omega) (by omega) rfl (fun _ _ => rfl) (fun v hv3 => f3 v hv3)
    refine fin (fun v => kcnt t vw v Q) τ2 e2 (g1.trans f1) (fun o ho => (g2 o ho).trans (f2 o ho)) (fun v hvw => ?_) (fun v hv3 => ⟨Nat.le_trans (kcnt_le _ _ _ _) hQ, g3 v hv3⟩) (fun v h1 h2 => kcnt_zero t vw v Q (fun r hr => by have := (hv r hr).1; omega))
    exact kd_hold (P := P) hQ q1 ht (by omega) (fun r hr => ⟨(hv r hr).1, (hv r hr).2.1⟩) (by omega) hw Q 0 1000 (by omega) (by omega)
