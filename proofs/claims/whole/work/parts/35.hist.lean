/-! ===== two riders; agree; what is undone ===== -/
theorem two_cases {n P Q : Nat} {σ τ : jT} (h : rAll n P Q σ τ) (x y : Int32) : (∃ r g, r < Q ∧ g < Q ∧ r ≠ g ∧ x = nI r ∧ y = nI g ∧ f_X10_areTwo x y σ = some (1, σ) ∧ f_X11_areTwo x y τ = some (1, τ)) ∨ (f_X10_areTwo x y σ = some (0, σ) ∧ f_X11_areTwo x y τ = some (0, τ)) := by
  obtain ⟨-, -, ⟨hQ, q1, q2, -⟩, -⟩ := h
  rcases vd_cases x (n := Q) (by omega) with ⟨r, hr, rfl⟩ | hx
  · rcases vd_cases y (n := Q) (by omega) with ⟨g, hg, rfl⟩ | hy
    · by_cases he : r = g
      · subst he
        refine Or.inr ⟨?_, ?_⟩
        · unfold f_X10_areTwo
          simp only [c_hr_t q1 hQ hr, Option.bind_some]
          rw [if_neg (by decide), if_neg (by decide)]; simp
        · unfold f_X11_areTwo
          simp only [m_isRider_t q2 hQ hr, Option.bind_some]
          rw [if_neg (by decide), if_neg (by decide)]; simp
      · have hne : ¬ nI r = nI g := fun q => he ((ja_eq (by omega) (by omega)).mp q)
        refine Or.inl ⟨r, g, hr, hg, he, rfl, rfl, ?_, ?_⟩
        · unfold f_X10_areTwo
          simp only [c_hr_t q1 hQ hr, c_hr_t q1 hQ hg, Option.bind_some]
          rw [if_neg (by decide), if_neg (by decide), if_neg hne]
        · unfold f_X11_areTwo
          simp only [m_isRider_t q2 hQ hr, m_isRider_t q2 hQ hg, Option.bind_some]
          rw [if_neg (by decide), if_neg (by decide), if_neg hne]
    · refine Or.inr ⟨?_, ?_⟩
      · unfold f_X10_areTwo
        simp only [c_hr_t q1 hQ hr, c_hr_f q1 hy, Option.bind_some]
        rfl
      · unfold f_X11_areTwo
        simp only [m_isRider_t q2 hQ hr, m_isRider_f q2 hQ hy, Option.bind_some]
        rfl
  · refine Or.inr ⟨?_, ?_⟩
    · unfold f_X10_areTwo
      simp only [c_hr_f q1 hx, Option.bind_some]
      rfl
    · unfold f_X11_areTwo
      simp only [m_isRider_f q2 hQ hx, Option.bind_some]
      rfl
theorem agree_loop {n P Q : Nat} {σ τ : jT} (h : rAll n P Q σ τ) {r g : Nat} (hr : r < Q) (hg : g < Q) : ∀ (m k : Nat) (f : Nat) (b : Int32), k + m = P → m < f → ∃ v u, f_X10_agree_b16 f (nI r) (nI g) b (nI k) σ = some (v, cRow1 σ u) ∧ f_X11_agree_b21 f (nI r) (nI g) b (nI k) τ = some (v, mRow1 τ u) := by
  obtain ⟨-, ⟨hP, p1, p2, -⟩, -⟩ := id h
  intro m
  induction m with
  | zero =>
    intro k f b hk hf
    obtain ⟨f, rfl⟩ : ∃ g, f = g + 1 := ⟨f - 1, by omega⟩
    obtain ⟨u, hu⟩ := j_bc b
    refine ⟨b, u, ?_, ?_⟩
    · rw [f_X10_agree_b16]
      unfold f_X3_places
      simp only [Option.bind_some]
      rw [p1, if_pos (nI_le (by omega) (by omega)), hu]
      simp only [Option.bind_some]
      rw [c_tell1]; rfl
    · rw [f_X11_agree_b21, p2, if_pos (nI_le (by omega) (by omega)), hu]
      simp only [Option.bind_some]
      have := m_tell1 τ u
      unfold mRow0 at this
      rw [this]; rfl
  | succ m ih =>
    intro k f b hk hf
    obtain ⟨f, rfl⟩ : ∃ g, f = g + 1 := ⟨f - 1, by omega⟩
    obtain ⟨w, v, hw3, w1, w2, hv, v1, v2⟩ := v_both h hr (p := k) (by omega)
    obtain ⟨w', v', hw3', w1', w2', hv', v1', v2'⟩ := v_both h hg (p := k) (by omega)
    have hwe : w' = w := (ja_eq (by omega) (by omega)).mp (w1'.symm.trans w1)
    subst hwe
    obtain ⟨a0, u0, x0, y0⟩ := ih (k + 1) f b (by omega) (by omega)
    obtain ⟨a1, u1, x1, y1⟩ := ih (k + 1) f (b ||| (1 <<< (nI k &&& 31))) (by omega) (by omega)
    by_cases h0 : w' = 0
    · refine ⟨a1, u1, ?_, ?_⟩
      · rw [f_X10_agree_b16]
        unfold f_X3_places
        simp only [Option.bind_some]
        rw [p1, if_neg (nI_ge (by omega) (by omega)), v1]
        simp only [Option.bind_some]
        rw [v1']
        simp only [Option.bind_some]
        rw [if_pos h0, if_pos h0, if_neg (by decide)]
        unfold f_X10_agree_b52
        rw [← nI_succ]; exact x1
      · rw [f_X11_agree_b21, p2, if_neg (nI_ge (by omega) (by omega)), if_pos (ja_in (by omega) (by omega)), nI_clamp (by omega), if_pos (by rw [w2, h0]; rfl)]
        unfold f_X11_agree_b66 f_X11_agree_b74
        rw [← nI_succ]; exact y1
    · obtain ⟨l1, l2⟩ := v2 (by omega)
      obtain ⟨l1', l2'⟩ := v2' (by omega)
      by_cases hvv : v = v'
      · subst hvv
        refine ⟨a1, u1, ?_, ?_⟩
        · rw [f_X10_agree_b16]
          unfold f_X3_places
          simp only [Option.bind_some]
          rw [p1, if_neg (nI_ge (by omega) (by omega)), v1]
          simp only [Option.bind_some]
          rw [v1']
          simp only [Option.bind_some]
          rw [if_neg (by simp)]
          unfold f_X10_agree_b52
          rw [← nI_succ]; exact x1
        · rw [f_X11_agree_b21, p2, if_neg (nI_ge (by omega) (by omega)), if_pos (ja_in (by omega) (by omega)), nI_clamp (by omega), if_neg (by rw [w2]; exact nI_ne0 (by omega) (by omega)), l2]
          simp only [Option.bind_some]
          rw [l2']
          simp only [Option.bind_some]
          rw [if_neg (by simp)]
          unfold f_X11_agree_b66 f_X11_agree_b74
          rw [← nI_succ]; exact y1
      · have hne : ¬ nI v = nI v' := fun q => hvv ((ja_eq (by omega) (by omega)).mp q)
        refine ⟨a0, u0, ?_, ?_⟩
        · rw [f_X10_agree_b16]
          unfold f_X3_places
          simp only [Option.bind_some]
          rw [p1, if_neg (nI_ge (by omega) (by omega)), v1]
          simp only [Option.bind_some]
          rw [v1']
          simp only [Option.bind_some]
          rw [if_neg h0, if_neg h0, if_pos hne]
          unfold f_X10_agree_b52
          rw [← nI_succ]; exact x0
        · rw [f_X11_agree_b21, p2, if_neg (nI_ge (by omega) (by omega)), if_pos (ja_in (by omega) (by omega)), nI_clamp (by omega), if_neg (by rw [w2]; exact nI_ne0 (by omega) (by omega)), l2]
          simp only [Option.bind_some]
          rw [l2']
          simp only [Option.bind_some]
          rw [if_pos hne]
          unfold f_X11_agree_b74
          rw [← nI_succ, show b ||| 0 = b by simp]; exact y0
theorem eq_agree {n P Q : Nat} {σ τ : jT} (h : rAll n P Q σ τ) (x y : Int32) : rEq n (f_X10_agree x y σ) (f_X11_agree x y τ) := by
  have h0 : rAll n P Q σ (gs τ 4172 0) := rAll_core h rfl rfl
  obtain ⟨-, ⟨hP, -⟩, -⟩ := id h
  unfold f_X10_agree f_X11_agree
  rcases two_cases h0 x y with ⟨r, g, hr, hg, hne, rfl, rfl, e1, e2⟩ | ⟨e1, e2⟩
  · obtain ⟨v, u, a1, a2⟩ := agree_loop h0 hr hg P 0 1000 0 (by omega) (by omega)
    rw [e1, e2]
    simp only [Option.bind_some]
    rw [if_pos (by decide), if_pos (by decide)]
    exact rEq_row h0 a1 a2 rfl rfl (rW1 _ _ _) rfl
  · rw [e1, e2]
    exact rEq_same h0 rfl rfl rfl rfl rfl
def lyT (τ : jT) (S D a k : Nat) : jT := (τ.1, fun o j => if o = D ∧ a ≤ j ∧ j < a + k then τ.2 S (j - a) else τ.2 o j)
theorem lyT_0 (τ : jT) (S D a : Nat) : lyT τ S D a 0 = τ := by
  unfold lyT
  have : (fun o j => if o = D ∧ a ≤ j ∧ j < a + 0 then τ.2 S (j - a) else τ.2 o j) = τ.2 := by
    funext o j
    rw [if_neg (by omega)]
  rw [this]
theorem lyT_s (τ : jT) {S D : Nat} (a k : Nat) (hSD : S ≠ D) : gA (lyT τ S D a k) D (a + k) ((lyT τ S D a k).2 S k) = lyT τ S D a (k + 1) := by
  unfold gA lyT
  simp only
  congr 1
  funext o j
  unfold jx_up2
  simp only
  rw [if_neg (show ¬ (S = D ∧ a ≤ k ∧ k < a + k) from fun q => hSD q.1)]
  by_cases h1 : o = D ∧ j = a + k
  · obtain ⟨rfl, rfl⟩ := h1
    rw [if_pos ⟨rfl, rfl⟩, if_pos ⟨rfl, by omega, by omega⟩, Nat.add_sub_cancel_left]
  · rw [if_neg h1]
    by_cases h2 : o = D ∧ a ≤ j ∧ j < a + k
    · rw [if_pos h2, if_pos ⟨h2.1, h2.2.1, by omega⟩]
    · rw [if_neg h2, if_neg (fun q => by
        rcases Nat.lt_or_ge j (a + k) with z | z
        · exact h2 ⟨q.1, q.2.1, z⟩
        · exact h1 ⟨q.1, by omega⟩)]
theorem m_lay_66_79 (τ : jT) {a : Nat} (ha : a + 28 ≤ 336) : f_X11_lay_66_79 (nI a) τ = some (0, lyT τ 66 79 a 28) := by
  have key : ∀ (m k f : Nat), k + m = 28 → m < f → f_X11_lay_66_79_b2 f (nI a) (nI k) (lyT τ 66 79 a k) = some (0, lyT τ 66 79 a 28) := by
    intro m
    induction m with
    | zero =>
      intro k f hk hf
      obtain ⟨f, rfl⟩ : ∃ g, f = g + 1 := ⟨f - 1, by omega⟩
      have : k = 28 := by omega
      subst this
      rw [f_X11_lay_66_79_b2, if_pos (by decide)]
    | succ m ih =>
      intro k f hk hf
      obtain ⟨f, rfl⟩ : ∃ g, f = g + 1 := ⟨f - 1, by omega⟩
      rw [f_X11_lay_66_79_b2, if_neg (show ¬ (28 : Int32) ≤ nI k from nI_ge (b := 28) (by omega) (by omega)), if_pos (ja_in (by omega) (by omega)), ja_add, if_pos (ja_in (by omega) (by omega)), nI_clamp (by omega), nI_clamp (by omega), lyT_s τ a k (by decide), ← nI_succ]
      exact ih (k + 1) f (by omega) (by omega)
  have := key 28 0 1000 (by omega) (by omega)
  rw [lyT_0] at this
  exact this
theorem m_lay_66_80 (τ : jT) {a : Nat} (ha : a + 28 ≤ 28) : f_X11_lay_66_80 (nI a) τ = some (0, lyT τ 66 80 a 28) := by
  have key : ∀ (m k f : Nat), k + m = 28 → m < f → f_X11_lay_66_80_b2 f (nI a) (nI k) (lyT τ 66 80 a k) = some (0, lyT τ 66 80 a 28) := by
    intro m
    induction m with
    | zero =>
      intro k f hk hf
      obtain ⟨f, rfl⟩ : ∃ g, f = g + 1 := ⟨f - 1, by omega⟩
      have : k = 28 := by omega
      subst this
      rw [f_X11_lay_66_80_b2, if_pos (by decide)]
    | succ m ih =>
      intro k f hk hf
      obtain ⟨f, rfl⟩ : ∃ g, f = g + 1 := ⟨f - 1, by omega⟩
      rw [f_X11_lay_66_80_b2, if_neg (show ¬ (28 : Int32) ≤ nI k from nI_ge (b := 28) (by omega) (by omega)), if_pos (ja_in (by omega) (by omega)), ja_add, if_pos (ja_in (by omega) (by omega)), nI_clamp (by omega), nI_clamp (by omega), lyT_s τ a k (by decide), ← nI_succ]
      exact ih (k + 1) f (by omega) (by omega)
  have := key 28 0 1000 (by omega) (by omega)
  rw [lyT_0] at this
  exact this
theorem m_lay_80_79 (τ : jT) {a : Nat} (ha : a + 28 ≤ 336) : f_X11_lay_80_79 (nI a) τ = some (0, lyT τ 80 79 a 28) := by
  have key : ∀ (m k f : Nat), k + m = 28 → m < f → f_X11_lay_80_79_b2 f (nI a) (nI k) (lyT τ 80 79 a k) = some (0, lyT τ 80 79 a 28) := by
    intro m
    induction m with
    | zero =>
      intro k f hk hf
      obtain ⟨f, rfl⟩ : ∃ g, f = g + 1 := ⟨f - 1, by omega⟩
      have : k = 28 := by omega
      subst this
      rw [f_X11_lay_80_79_b2, if_pos (by decide)]
    | succ m ih =>
      intro k f hk hf
      obtain ⟨f, rfl⟩ : ∃ g, f = g + 1 := ⟨f - 1, by omega⟩
      rw [f_X11_lay_80_79_b2, if_neg (show ¬ (28 : Int32) ≤ nI k from nI_ge (b := 28) (by omega) (by omega)), if_pos (ja_in (by omega) (by omega)), ja_add, if_pos (ja_in (by omega) (by omega)), nI_clamp (by omega), nI_clamp (by omega), lyT_s τ a k (by decide), ← nI_succ]
      exact ih (k + 1) f (by omega) (by omega)
  have := key 28 0 1000 (by omega) (by omega)
  rw [lyT_0] at this
  exact this
theorem m_lay_66_82 (τ : jT) {a : Nat} (ha : a + 28 ≤ 28) : f_X11_lay_66_82 (nI a) τ = some (0, lyT τ 66 82 a 28) := by
  have key : ∀ (m k f : Nat), k + m = 28 → m < f → f_X11_lay_66_82_b2 f (nI a) (nI k) (lyT τ 66 82 a k) = some (0, lyT τ 66 82 a 28) := by
    intro m
    induction m with
    | zero =>
      intro k f hk hf
      obtain ⟨f, rfl⟩ : ∃ g, f = g + 1 := ⟨f - 1, by omega⟩
      have : k = 28 := by omega
      subst this
      rw [f_X11_lay_66_82_b2, if_pos (by decide)]
    | succ m ih =>
      intro k f hk hf
      obtain ⟨f, rfl⟩ : ∃ g, f = g + 1 := ⟨f - 1, by omega⟩
      rw [f_X11_lay_66_82_b2, if_neg (show ¬ (28 : Int32) ≤ nI k from nI_ge (b := 28) (by omega) (by omega)), if_pos (ja_in (by omega) (by omega)), ja_add, if_pos (ja_in (by omega) (by omega)), nI_clamp (by omega), nI_clamp (by omega), lyT_s τ a k (by decide), ← nI_succ]
      exact ih (k + 1) f (by omega) (by omega)
  have := key 28 0 1000 (by omega) (by omega)
  rw [lyT_0] at this
  exact this
theorem m_lay_66_92 (τ : jT) {a : Nat} (ha : a + 28 ≤ 56) : f_X11_lay_66_92 (nI a) τ = some (0, lyT τ 66 92 a 28) := by
  have key : ∀ (m k f : Nat), k + m = 28 → m < f → f_X11_lay_66_92_b2 f (nI a) (nI k) (lyT τ 66 92 a k) = some (0, lyT τ 66 92 a 28) := by
    intro m
    induction m with
    | zero =>
      intro k f hk hf
      obtain ⟨f, rfl⟩ : ∃ g, f = g + 1 := ⟨f - 1, by omega⟩
      have : k = 28 := by omega
      subst this
      rw [f_X11_lay_66_92_b2, if_pos (by decide)]
    | succ m ih =>
      intro k f hk hf
      obtain ⟨f, rfl⟩ : ∃ g, f = g + 1 := ⟨f - 1, by omega⟩
      rw [f_X11_lay_66_92_b2, if_neg (show ¬ (28 : Int32) ≤ nI k from nI_ge (b := 28) (by omega) (by omega)), if_pos (ja_in (by omega) (by omega)), ja_add, if_pos (ja_in (by omega) (by omega)), nI_clamp (by omega), nI_clamp (by omega), lyT_s τ a k (by decide), ← nI_succ]
      exact ih (k + 1) f (by omega) (by omega)
  have := key 28 0 1000 (by omega) (by omega)
  rw [lyT_0] at this
  exact this
theorem rS_congr {P Q : Nat} {dg cn mn cn' mn' : Nat → Int32} (hQ : Q ≤ 6) (h : rS P Q dg cn mn) (h1 : ∀ k, k < 28 → cn' k = cn k) (h2 : ∀ k, k < 28 → mn' k = mn k) : rS P Q dg cn' mn' := by
  unfold rS at h ⊢
  rw [h1 24 (by omega), h1 25 (by omega), h1 26 (by omega), h1 27 (by omega), h2 0 (by omega), h2 1 (by omega), h2 2 (by omega), h2 3 (by omega)]
  obtain ⟨a, b, c, d, e, f⟩ := h
  refine ⟨a, b, c, d, ?_, fun r hr => ?_⟩
  · rcases e with e | ⟨f, g, k1, k2, k3, k4, k5, k6, k7⟩
    · exact Or.inl e
    · exact Or.inr ⟨f, g, k1, k2, k3, k4, k5, by rw [h1 _ (by omega)]; exact k6, by rw [h1 _ (by omega)]; exact k7⟩
  rw [h1 r (by omega), h1 (6 + r) (by omega), h1 (12 + r) (by omega), h1 (18 + r) (by omega), h2 (4 + r) (by omega), h2 (10 + r) (by omega), h2 (16 + r) (by omega), h2 (22 + r) (by omega)]
  exact f r hr
theorem pastC_lt (σ : jT) {i : Nat} (hi : i < 13) : pastC σ i = σ.2 (17 + 2 * i) := by
  rcases (show i = 0 ∨ i = 1 ∨ i = 2 ∨ i = 3 ∨ i = 4 ∨ i = 5 ∨ i = 6 ∨ i = 7 ∨ i = 8 ∨ i = 9 ∨ i = 10 ∨ i = 11 ∨ i = 12 by omega) with rfl | rfl | rfl | rfl | rfl | rfl | rfl | rfl | rfl | rfl | rfl | rfl | rfl <;> rfl
/-- the class notes how it stands -/
def cNote (σ : jT) (N : Nat) : jT := gC σ 13 (17 + 2 * N) 0 0 28
theorem c_note {σ : jT} {N : Nat} (hN : N < 13) (h : σ.1 898 = nI N) : f_X2_note_12 σ = some (0, cNote σ N) := by
  unfold f_X2_note_12
  rcases (show N = 0 ∨ N = 1 ∨ N = 2 ∨ N = 3 ∨ N = 4 ∨ N = 5 ∨ N = 6 ∨ N = 7 ∨ N = 8 ∨ N = 9 ∨ N = 10 ∨ N = 11 ∨ N = 12 by omega) with rfl | rfl | rfl | rfl | rfl | rfl | rfl | rfl | rfl | rfl | rfl | rfl | rfl <;> rw [h] <;> rfl
theorem cNote_2 (σ : jT) {N o : Nat} (ho : o ≠ 17 + 2 * N) : (cNote σ N).2 o = σ.2 o := by
  show (if o = 17 + 2 * N then _ else σ.2 o) = _
  rw [if_neg ho]
theorem cNote_p (σ : jT) {N i : Nat} (hi : i < 13) (hne : i ≠ N) : pastC (cNote σ N) i = pastC σ i := by
  rw [pastC_lt _ hi, pastC_lt _ hi, cNote_2 σ (by omega)]
theorem cNote_n (σ : jT) {N : Nat} (hN : N < 13) {k : Nat} (hk : k < 28) : pastC (cNote σ N) N k = σ.2 13 k := by
  rw [pastC_lt _ hN]
  show (if 17 + 2 * N = 17 + 2 * N then va_cpy (σ.2 13) (σ.2 (17 + 2 * N)) 0 0 28 else σ.2 (17 + 2 * N)) k = _
  rw [if_pos rfl]
  unfold va_cpy
  rw [if_pos (by omega)]
  simp
theorem cNote_k (σ : jT) {N : Nat} (hN : N < 13) : keptC (cNote σ N) = keptC σ := by
  funext i
  match i with
  | 0 => exact cNote_2 σ (o := 44) (by omega)
  | i + 1 => exact cNote_2 σ (o := 46) (by omega)
