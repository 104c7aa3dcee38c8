/-! ===== editions ===== -/
theorem put_bothE {n P Q s : Nat} {σ τ : jT} (h : rAll n P Q σ τ) (hs : τ.1 4171 = nI s) (hs16 : s < 16) (x : Int32) : ∃ σ' τ', f_X6_put x σ = some (0, σ') ∧ f_X11_tell x τ = some (0, τ') ∧ rAll n P Q σ' τ' ∧ τ'.1 4171 = nI (s + 1) ∧ (∀ i, i ≠ 3009 → σ'.1 i = σ.1 i) ∧ (∀ o, o ≠ 48 → σ'.2 o = σ.2 o) ∧ (∀ i, i ≠ 4171 → τ'.1 i = τ.1 i) ∧ (∀ o, o ≠ 72 → τ'.2 o = τ.2 o) ∧ ∀ i, σ'.2 48 i = if i = s then x else σ.2 48 i := by
  obtain ⟨σ', τ', a1, a2, a3, a4, a5, a6, a7, a8⟩ := put_both h hs hs16 x
  refine ⟨σ', τ', a1, a2, a3, a4, a5, a6, a7, a8, fun i => ?_⟩
  obtain ⟨-, -, -, -, -, -, -, ⟨s', hs', w1, w2, w3⟩, -⟩ := id h
  have hss : s' = s := (ja_eq (by omega) (by omega)).mp (w2.symm.trans hs)
  subst hss
  rw [c_put w1 hs16] at a1
  injection a1 with a1
  have a1' : gs (gA σ 48 s' x) 3009 (nI (s' + 1)) = σ' := congrArg Prod.snd a1
  rw [← a1']
  show (if 48 = 48 ∧ i = s' then x else σ.2 48 i) = _
  by_cases hi2 : i = s'
  · rw [if_pos ⟨rfl, hi2⟩, if_pos hi2]
  · rw [if_neg (fun q => hi2 q.2), if_neg hi2]
theorem dig_ext : ∀ (P M N : Nat), M < 4 ^ P → N < 4 ^ P → (∀ p, p < P → M / 4 ^ p % 4 = N / 4 ^ p % 4) → M = N := by
  intro P
  induction P with
  | zero => intro M N h1 h2 _; simp at h1 h2; omega
  | succ P ih =>
    intro M N h1 h2 h3
    rw [Nat.pow_succ] at h1 h2
    have e0 := h3 0 (by omega)
    simp only [Nat.pow_zero, Nat.div_one] at e0
    have e := ih (M / 4) (N / 4) (by omega) (by omega) (fun p hp => by
      rw [Nat.div_div_eq_div_mul, Nat.div_div_eq_div_mul, Nat.mul_comm 4, ← Nat.pow_succ]
      exact h3 (p + 1) (by omega))
    omega
theorem m_like {P Q a b ja jb Ma Mb : Nat} {τ : jT} (hP : P ≤ 10) (p2 : τ.1 4161 = nI P) (ha : a < 6) (hb : b < 6) (hja : ja < 6) (hjb : jb < 6) (ea : τ.2 66 (22 + a) = nI ja) (eb : τ.2 66 (22 + b) = nI jb) (hMa : Ma < 4 ^ P) (hMb : Mb < 4 ^ P) (da : ∀ p, p < P → τ.2 70 (10 * ja + p) = nI (Ma / 4 ^ p % 4)) (db : ∀ p, p < P → τ.2 70 (10 * jb + p) = nI (Mb / 4 ^ p % 4)) :
    f_X11_areLike (nI a) (nI b) τ = some (if Ma = Mb then 1 else 0, τ) := by
  have key : ∀ m k fu, k + m = P → m < fu → (∀ p, p < k → Ma / 4 ^ p % 4 = Mb / 4 ^ p % 4) → f_X11_areLike_b2 fu (nI a) (nI b) (nI k) τ = some (if Ma = Mb then 1 else 0, τ) := by
    intro m
    induction m with
    | zero =>
      intro k fu hk hf hd
      obtain ⟨fu, rfl⟩ : ∃ f', fu = f' + 1 := ⟨fu - 1, by omega⟩
      rw [f_X11_areLike_b2, p2, if_pos ((ja_le (by omega) (by omega)).2 (by omega)), if_pos (dig_ext P Ma Mb hMa hMb (fun p hp => hd p (by omega)))]
    | succ m ih =>
      intro k fu hk hf hd
      obtain ⟨fu, rfl⟩ : ∃ f', fu = f' + 1 := ⟨fu - 1, by omega⟩
      have x1 : (22 : Int32) + nI a = nI (22 + a) := ja_add 22 a
      have x2 : (22 : Int32) + nI b = nI (22 + b) := ja_add 22 b
      have x3 : (10 : Int32) * nI ja = nI (10 * ja) := by
        have : ∀ j, j < 6 → (10 : Int32) * nI j = nI (10 * j) := by decide
        exact this ja hja
      have x4 : (10 : Int32) * nI jb = nI (10 * jb) := by
        have : ∀ j, j < 6 → (10 : Int32) * nI j = nI (10 * j) := by decide
        exact this jb hjb
      rw [f_X11_areLike_b2, p2, if_neg (fun c => by have := (ja_le (by omega) (by omega)).1 c; omega), x1, x2, if_pos (ja_in (n := 28) (by omega) (by omega)), nI_clamp (by omega), ea, x3, ja_add, if_pos (ja_in (n := 60) (by omega) (by omega)),
        if_pos (ja_in (n := 28) (by omega) (by omega)), nI_clamp (by omega), eb, x4, ja_add, if_pos (ja_in (n := 60) (by omega) (by omega)), nI_clamp (by omega), nI_clamp (by omega), da k (by omega), db k (by omega), nS]
      have h1 : Ma / 4 ^ k % 4 < 4 := Nat.mod_lt _ (by omega)
      have h2 : Mb / 4 ^ k % 4 < 4 := Nat.mod_lt _ (by omega)
      by_cases c : Ma / 4 ^ k % 4 = Mb / 4 ^ k % 4
      · rw [if_pos (by rw [c])]
        refine ih (k + 1) fu (by omega) (by omega) (fun p hp => ?_)
        by_cases hp2 : p = k
        · rw [hp2]; exact c
        · exact hd p (by omega)
      · rw [if_neg (fun q => c ((ja_eq (by omega) (by omega)).1 q)), if_neg (fun q => c (by rw [q]))]
  exact key P 0 1000 (by omega) (by omega) (fun p hp => absurd hp (Nat.not_lt_zero _))
/-- how many of those are before k -/
def pcnt (t k : Nat) : Nat := kcnt t (fun _ => 0) 0 k
theorem pcnt_s (t k : Nat) : pcnt t (k + 1) = pcnt t k + if t / 2 ^ k % 2 = 1 then 1 else 0 := by
  show kcnt t (fun _ => 0) 0 k + _ = _
  by_cases c : t / 2 ^ k % 2 = 1
  · rw [if_pos ⟨c, rfl⟩, if_pos c]; rfl
  · rw [if_neg (fun q => c q.1), if_neg c]; rfl
theorem pcnt_le (t k : Nat) : pcnt t k ≤ k := kcnt_le _ _ _ _
theorem pcnt_mono (t : Nat) {a b : Nat} (h : a ≤ b) : pcnt t a ≤ pcnt t b := by
  obtain ⟨d, rfl⟩ := Nat.exists_eq_add_of_le h
  induction d with
  | zero => exact Nat.le_refl _
  | succ d ih => rw [← Nat.add_assoc, pcnt_s]; have := ih (by omega); omega
theorem pcnt_lt {t a b : Nat} (h : a < b) (hb : t / 2 ^ a % 2 = 1) : pcnt t a < pcnt t b := by
  have h1 := pcnt_mono t (show a + 1 ≤ b by omega)
  rw [pcnt_s, if_pos hb] at h1
  omega
theorem ed_seen {n P Q t r : Nat} {x : Int32} {ed : Nat → Nat} {σ τ : jT} (h : rAll n P Q σ τ) (ht : t < 2 ^ Q) (hr : r < Q) (hs : σ.1 3009 = nI (pcnt t r)) (he : ∀ l, l < r → t / 2 ^ l % 2 = 1 → σ.2 48 (pcnt t l) = nI (ed l)) (km : Int32 → Int32 → Int32 → jT → Option (Int32 × jT)) :
    ∀ m l fu fu', l + m = r → m < fu → m < fu' → ∃ like, like ≤ r ∧ (like < r → t / 2 ^ like % 2 = 1) ∧ f_X10_editionSeen_b5 fu (nI t) (nI r) (nI (pcnt t l)) (nI l) σ = some (if like = r then -1 else nI (ed like), σ) ∧ f_X11_editions_b46 km fu' (nI t) x (nI r) (nI l) τ = f_X11_editions_b77 km (nI t) x (nI r) (nI like) τ := by
  obtain ⟨-, ⟨hP, p1, p2, -⟩, ⟨hQ, q1, q2, -⟩, ⟨⟨-, -, -, -, -, hS⟩, -⟩, -⟩ := id h
  have h64 := p2_64 hQ
  intro m
  induction m with
  | zero =>
    intro l fu fu' hl hf hf'
    obtain ⟨fu, rfl⟩ : ∃ f', fu = f' + 1 := ⟨fu - 1, by omega⟩
    obtain ⟨fu', rfl⟩ : ∃ f', fu' = f' + 1 := ⟨fu' - 1, by omega⟩
    have hle : nI r ≤ nI l := (ja_le (by omega) (by omega)).mpr (by omega)
    rw [f_X10_editionSeen_b5, f_X11_editions_b46, if_pos hle, if_pos hle]
    refine ⟨r, Nat.le_refl _, fun q => absurd q (Nat.lt_irrefl _), ?_, by rw [show l = r by omega]⟩
    rw [if_pos rfl]
  | succ m ih =>
    intro l fu fu' hl hf hf'
    obtain ⟨fu, rfl⟩ : ∃ f', fu = f' + 1 := ⟨fu - 1, by omega⟩
    obtain ⟨fu', rfl⟩ : ∃ f', fu' = f' + 1 := ⟨fu' - 1, by omega⟩
    have hle : ¬ nI r ≤ nI l := fun c => by have := (ja_le (by omega) (by omega)).1 c; omega
    obtain ⟨like, g1, g2, g3, g4⟩ := ih (l + 1) fu fu' (by omega) (by omega) (by omega)
    rw [f_X10_editionSeen_b5, f_X11_editions_b46, if_neg hle, if_neg hle, j_bit (by omega) (by omega), m_has (by omega) (by omega)]
    simp only [bnd]
    unfold f_X10_editionSeen_b52 f_X11_editions_b71
    rw [nS]
    have h2 : t / 2 ^ l % 2 < 2 := Nat.mod_lt _ (by omega)
    rw [pcnt_s] at g3
    by_cases c : t / 2 ^ l % 2 = 1
    · rw [c, if_neg (by decide), if_pos rfl, if_neg (by decide), c_mapOf (by omega)]
      simp only [bnd]
      rw [c_mapOf (by omega)]
      simp only [bnd]
      obtain ⟨-, -, -, jl, Ml, hjl, hMl, el, ml, dl⟩ := hS l (by omega)
      obtain ⟨-, -, -, jr, Mr, hjr, hMr, er, mr, dr⟩ := hS r (by omega)
      rw [m_like (Q := Q) hP p2 (by omega) (by omega) (by omega) (by omega) el er hMl hMr (fun p hp => (dl p hp).1) (fun p hp => (dr p hp).1), ml, mr]
      simp only [bnd]
      have k1 := j_pow4 hP hMl
      have k2 := j_pow4 hP hMr
      by_cases cm : Ml = Mr
      · rw [if_neg (fun q => q (by rw [cm])), if_pos cm, if_pos (by decide)]
        refine ⟨l, by omega, fun _ => c, ?_, rfl⟩
        unfold f_X6_at
        have hlt := pcnt_lt (b := r) (show l < r by omega) c
        have hle2 := pcnt_le t r
        rw [if_neg (nI_pos (by omega)), hs, if_neg (fun c => by have := (ja_le (by omega) (by omega)).1 c; omega), if_pos (ja_in (n := 16) (by omega) (by omega)), nI_clamp (by omega), he l (by omega) c, if_neg (by omega)]
        simp only [bnd]
      · rw [if_pos (fun q => cm ((ja_eq (by omega) (by omega)).1 q)), if_neg cm, if_neg (by decide)]
        rw [if_pos c, ← nS] at g3
        exact ⟨like, g1, g2, g3, g4⟩
    · rw [if_neg c, show t / 2 ^ l % 2 = 0 by omega, if_pos (by decide), if_pos (by decide)]
      rw [if_neg c] at g3
      exact ⟨like, g1, g2, g3, g4⟩
theorem ed_out {n P Q t : Nat} (ht : t < 2 ^ Q) : ∀ (m k fu nn : Nat) (ed : Nat → Nat) (σ τ : jT), k + m = Q → m < fu → nn ≤ k → rAll n P Q σ τ → τ.1 4172 = 0 → τ.1 4171 = nI (pcnt t k) → (∀ l, l < k → t / 2 ^ l % 2 = 1 → ed l ≤ 6 ∧ σ.2 48 (pcnt t l) = nI (ed l) ∧ τ.2 89 l = nI (ed l)) →
    rEq n (f_X10_editions_b24 fu (nI t) (nI nn) (nI k) σ) (f_X11_editions_b24 fu (nI t) (nI nn) (nI k) τ) := by
  intro m
  induction m with
  | zero =>
    intro k fu nn ed σ τ hk hf hn h hth hs he
    obtain ⟨fu, rfl⟩ : ∃ f', fu = f' + 1 := ⟨fu - 1, by omega⟩
    obtain ⟨-, -, ⟨hQ, q1, q2, -⟩, -⟩ := id h
    rw [f_X10_editions_b24, f_X11_editions_b24]
    unfold f_X3_riderCount
    simp only [bnd]
    rw [q1, q2, if_pos ((ja_le (by omega) (by omega)).2 (by omega)), if_pos ((ja_le (by omega) (by omega)).2 (by omega))]
    exact rEq_same h rfl rfl rfl rfl hth
  | succ m ih =>
    intro k fu nn ed σ τ hk hf hn h hth hs he
    obtain ⟨fu, rfl⟩ : ∃ f', fu = f' + 1 := ⟨fu - 1, by omega⟩
    obtain ⟨-, -, ⟨hQ, q1, q2, -⟩, -, -, -, -, ⟨s', hs', w1, w2, w3⟩, -⟩ := id h
    have h64 := p2_64 hQ
    have hpl := pcnt_le t k
    have hss : s' = pcnt t k := (ja_eq (by omega) (by omega)).mp (w2.symm.trans hs)
    subst hss
    have hle : ¬ nI Q ≤ nI k := fun c => by have := (ja_le (by omega) (by omega)).1 c; omega
    rw [f_X10_editions_b24, f_X11_editions_b24]
    unfold f_X3_riderCount
    simp only [bnd]
    rw [q1, q2, if_neg hle, if_neg hle, j_bit (by omega) (by omega), m_has (by omega) (by omega)]
    simp only [bnd]
    have h2 : t / 2 ^ k % 2 < 2 := Nat.mod_lt _ (by omega)
    by_cases c : t / 2 ^ k % 2 = 1
    · rw [c, if_neg (by decide), if_pos rfl, if_pos (by decide)]
      obtain ⟨like, g1, g2, g3, g4⟩ := ed_seen (x := nI nn) h ht (show k < Q by omega) w1 (fun l hl hb => (he l hl hb).2.1) (f_X11_editions_b24 fu) k 0 1000 1000 (by omega) (by omega) (by omega)
      have g3' : f_X10_editionSeen (nI t) (nI k) σ = some (if like = k then -1 else nI (ed like), σ) := g3
      have g4' : f_X11_editions_b46 (f_X11_editions_b24 fu) 1000 (nI t) (nI nn) (nI k) 0 τ = _ := g4
      rw [g3', g4']
      simp only [bnd]
      -- what is told, and the count behind it
      have fin : ∀ (v n2 : Nat), v ≤ 6 → n2 ≤ k + 1 → ∃ σ' τ', f_X6_put (nI v) σ = some (0, σ') ∧ f_X11_tell (nI v) (gA τ 89 k (nI v)) = some (0, τ') ∧ rEq n (f_X10_editions_b24 fu (nI t) (nI n2) (nI (k + 1)) σ') (f_X11_editions_b24 fu (nI t) (nI n2) (nI (k + 1)) τ') := by
        intro v n2 hv6 hn2
        have hg : rAll n P Q σ (gA τ 89 k (nI v)) := rAll_core h rfl rfl
        obtain ⟨σ', τ', a1, a2, a3, a4, a5, a6, a7, a8, a9⟩ := put_bothE hg hs (by omega) (nI v)
        refine ⟨σ', τ', a1, a2, ih (k + 1) fu n2 (fun l => if l = k then v else ed l) σ' τ' (by omega) (by omega) hn2 a3 ?_ ?_ ?_⟩
        · rw [a7 4172 (by decide)]; exact hth
        · rw [a4, pcnt_s, if_pos c]
        · intro l hl hb
          rw [a9, a8 89 (by decide), ja_gA]
          by_cases z : l = k
          · subst z
            rw [if_pos rfl, if_pos rfl, if_pos ⟨rfl, rfl⟩]; exact ⟨hv6, rfl, rfl⟩
          · have := pcnt_lt (b := k) (show l < k by omega) hb
            rw [if_neg (show ¬ pcnt t l = pcnt t k by omega), if_neg z, if_neg (fun q => z q.2)]
            exact he l (by omega) hb
      by_cases cl : like = k
      · subst cl
        rw [if_pos rfl, if_neg (fun q => q rfl)]
        unfold f_X10_editions_b67 f_X11_editions_b77 f_X11_editions_b99 f_X11_editions_b109 f_X10_editions_b82 f_X10_editions_b84 f_X11_editions_b119
        rw [if_pos ((ja_le (by omega) (by omega)).2 (Nat.le_refl _)), if_pos (ja_in (n := 6) (by omega) (by omega)), if_neg (fun q => q rfl), if_pos (ja_in (n := 6) (by omega) (by omega)), nI_clamp (by omega), show (gA τ 89 like (nI nn)).2 89 like = nI nn from if_pos ⟨rfl, rfl⟩]
        obtain ⟨σ', τ', a1, a2, a3⟩ := fin nn (nn + 1) (by omega) (by omega)
        rw [a1, a2]
        simp only [bnd]
        rw [nS, nS]
        exact a3
      · have hlk : like < k := by omega
        obtain ⟨z0, z1, z2⟩ := he like hlk (g2 hlk)
        rw [if_neg cl, if_pos (ja_neg1 (by omega))]
        unfold f_X10_editions_b67 f_X11_editions_b77 f_X11_editions_b99 f_X11_editions_b109 f_X10_editions_b82 f_X10_editions_b84 f_X11_editions_b119
        rw [if_neg (fun c => by have := (ja_le (by omega) (by omega)).1 c; omega), if_pos (ja_in (k := like) (n := 6) (by omega) (by omega)), if_pos (ja_in (n := 6) (by omega) (by omega)), if_pos (fun q => cl ((ja_eq (by omega) (by omega)).1 q)), if_pos (ja_in (n := 6) (by omega) (by omega)), nI_clamp (by omega), nI_clamp (by omega), z2, show (gA τ 89 k (nI (ed like))).2 89 k = nI (ed like) from if_pos ⟨rfl, rfl⟩]
        obtain ⟨σ', τ', a1, a2, a3⟩ := fin (ed like) nn z0 (by omega)
        rw [a1, a2]
        simp only [bnd]
        rw [if_pos (ja_neg1 (by omega)), nS, show nI nn + 0 = nI nn from Int32.add_zero _]
        exact a3
    · rw [if_neg c, show t / 2 ^ k % 2 = 0 by omega, if_pos (by decide), if_neg (by decide)]
      unfold f_X10_editions_b84 f_X11_editions_b119
      rw [nS]
      refine ih (k + 1) fu nn ed σ τ (by omega) (by omega) (by omega) h hth ?_ (fun l hl hb => he l ?_ hb)
      · rw [hs, pcnt_s, if_neg c]; rfl
      · by_cases z : l = k
        · subst z; exact absurd hb c
        · omega
theorem eq_editions {n P Q : Nat} {σ τ : jT} (h : rAll n P Q σ τ) (x : Int32) : rEq n (f_X10_editions x σ) (f_X11_editions x τ) := by
  have h0 : rAll n P Q σ (gs τ 4172 0) := rAll_core h rfl rfl
  obtain ⟨-, -, ⟨hQ, q1, q2, -⟩, -⟩ := id h0
  have h64 := p2_64 hQ
  unfold f_X10_editions f_X11_editions
  rcases vd_cases x (n := 2 ^ Q) (by omega) with ⟨t, ht, rfl⟩ | hx
  rotate_left
  · rw [c_th_f q1 hQ hx, m_th_f q2 hQ hx]
    simp only [bnd]
    exact rEq_same h rfl rfl rfl rfl rfl
  rw [c_th_t q1 hQ ht, m_th_t q2 hQ ht]
  simp only [bnd]
  rw [if_pos (by decide), if_pos (by decide)]
  unfold f_X6_clear
  simp only [bnd]
  exact ed_out ht Q 0 1000 0 (fun _ => 0) _ _ (by omega) (by omega) (by omega) (rAll_row h0 rfl rfl (rW0 rfl rfl)) rfl rfl (fun l hl => absurd hl (Nat.not_lt_zero _))
