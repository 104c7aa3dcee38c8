/-! ===== where rides of fresh pairs stop ===== -/
/-- a place, or none -/
def tI (v : Nat) : Int32 := if v < 10 then nI v else -1
theorem tI_t {v : Nat} (h : v < 10) : tI v = nI v := if_pos h
theorem tI_f {v : Nat} (h : ¬ v < 10) : tI v = -1 := if_neg h
def tOk (P Q : Nat) (σ0 τ0 : jT) (T : Nat → Nat → Nat) : Prop := ∀ p a b, p < P → a < 6 → b < 6 →
  (a < Q ∧ b < Q ∧ a ≠ b → (T p (6 * a + b) < P ∨ T p (6 * a + b) = 99) ∧
    (∀ σ, coreGC σ = coreGC σ0 → ∃ σ1 σ' q, f_X5_beginFresh (nI a) (nI b) (nI p) σ = some (0, σ1) ∧ f_X5_goOut σ1 = some (0, σ') ∧ qC σ σ' ∧ σ'.1 3144 = nI q ∧ q < P ∧ ((σ'.1 3148 = 0 ∧ T p (6 * a + b) = 99) ∨ (σ'.1 3148 = 1 ∧ T p (6 * a + b) = q))) ∧
    ∀ τ, coreGM τ = coreGM τ0 → ∃ τ', f_X11_stopOf (nI a) (nI b) (nI p) 1 τ = some (tI (T p (6 * a + b)), τ') ∧ qM τ τ') ∧
  (¬ (a < Q ∧ b < Q ∧ a ≠ b) → T p (6 * a + b) = 99)
theorem fs_one {P Q p a b : Nat} {σ0 τ0 : jT} (h : rG P Q σ0 τ0) (hp : p < P) (ha : a < Q) (hb : b < Q) (hab : a ≠ b) : ∃ v, (v < P ∨ v = 99) ∧
    (∀ σ, coreGC σ = coreGC σ0 → ∃ σ1 σ' q, f_X5_beginFresh (nI a) (nI b) (nI p) σ = some (0, σ1) ∧ f_X5_goOut σ1 = some (0, σ') ∧ qC σ σ' ∧ σ'.1 3144 = nI q ∧ q < P ∧ ((σ'.1 3148 = 0 ∧ v = 99) ∨ (σ'.1 3148 = 1 ∧ v = q))) ∧
    ∀ τ, coreGM τ = coreGM τ0 → ∃ τ', f_X11_stopOf (nI a) (nI b) (nI p) 1 τ = some (tI v, τ') ∧ qM τ τ' := by
  have hP : P ≤ 10 := h.1.1
  obtain ⟨k, x, σ1, σ', τ', hk, e1, e2, e3, e4, e5, -, -, q, hq, e6, e7⟩ := fstop_both h ha hb hab hp
  obtain ⟨v, hv, hvx⟩ : ∃ v, (v < P ∨ v = 99) ∧ x = tI v ∧ ((σ'.1 3148 = 0 ∧ v = 99) ∨ (σ'.1 3148 = 1 ∧ v = q)) := by
    rcases e7 with ⟨z1, z2⟩ | ⟨z1, z2⟩
    · exact ⟨99, Or.inr rfl, by rw [z2]; rfl, Or.inl ⟨z1, rfl⟩⟩
    · exact ⟨q, Or.inl hq, by rw [z2, tI_t (by omega)], Or.inr ⟨z1, rfl⟩⟩
  refine ⟨v, hv, fun σ hσ => ?_, fun τ hτ => ?_⟩
  · obtain ⟨k2, x2, s1, s', t', -, f1, f2, f3, f4, -, -, -, q2, hq2, f6, f7⟩ := fstop_both (rG_core h hσ rfl : rG P Q σ τ0) ha hb hab hp
    have ex : x2 = x := by
      have := f3.symm.trans e3
      injection this with this
      exact congrArg Prod.fst this
    refine ⟨s1, s', q2, f1, f2, f4, f6, hq2, ?_⟩
    rcases f7 with ⟨z1, z2⟩ | ⟨z1, z2⟩
    · left
      refine ⟨z1, ?_⟩
      rcases hvx.2 with ⟨y1, y2⟩ | ⟨y1, y2⟩
      · exact y2
      · rw [ex, hvx.1, y2, tI_t (by omega)] at z2
        exact absurd z2 (ja_neg1 (by omega))
    · right
      refine ⟨z1, ?_⟩
      rw [ex, hvx.1] at z2
      rcases hv with hv | hv
      · rw [tI_t (by omega)] at z2
        exact (ja_eq (by omega) (by omega)).1 z2
      · rw [hv, tI_f (by omega)] at z2
        exact absurd z2.symm (ja_neg1 (by omega))
  · obtain ⟨k2, x2, s1, s', t', -, f1, f2, f3, f4, f5, -, -, q2, hq2, f6, f7⟩ := fstop_both (rG_core h rfl hτ : rG P Q σ0 τ) ha hb hab hp
    have es : s' = σ' := by
      have g1 := f1.symm.trans e1
      injection g1 with g1
      have g1' : s1 = σ1 := congrArg Prod.snd g1
      subst g1'
      have g2 := f2.symm.trans e2
      injection g2 with g2
      exact congrArg Prod.snd g2
    subst es
    have eq2 : q2 = q := (ja_eq (by omega) (by omega)).1 (f6.symm.trans e6)
    subst eq2
    have : x2 = x := by
      rcases f7 with ⟨z1, z2⟩ | ⟨z1, z2⟩
      · rcases e7 with ⟨y1, y2⟩ | ⟨y1, y2⟩
        · rw [z2, y2]
        · rw [z1] at y1; exact absurd y1 (by decide)
      · rcases e7 with ⟨y1, y2⟩ | ⟨y1, y2⟩
        · rw [z1] at y1; exact absurd y1 (by decide)
        · rw [z2, y2]
    exact ⟨t', by rw [f3, this, hvx.1], f5⟩
theorem fs_table {P Q : Nat} {σ0 τ0 : jT} (h : rG P Q σ0 τ0) : ∃ T, tOk P Q σ0 τ0 T := by
  have hex : ∀ p z, ∃ v, (p < P → z / 6 < Q → z % 6 < Q → z / 6 ≠ z % 6 → (v < P ∨ v = 99) ∧
    (∀ σ, coreGC σ = coreGC σ0 → ∃ σ1 σ' q, f_X5_beginFresh (nI (z / 6)) (nI (z % 6)) (nI p) σ = some (0, σ1) ∧ f_X5_goOut σ1 = some (0, σ') ∧ qC σ σ' ∧ σ'.1 3144 = nI q ∧ q < P ∧ ((σ'.1 3148 = 0 ∧ v = 99) ∨ (σ'.1 3148 = 1 ∧ v = q))) ∧
    ∀ τ, coreGM τ = coreGM τ0 → ∃ τ', f_X11_stopOf (nI (z / 6)) (nI (z % 6)) (nI p) 1 τ = some (tI v, τ') ∧ qM τ τ') ∧ (¬ (z / 6 < Q ∧ z % 6 < Q ∧ z / 6 ≠ z % 6) → v = 99) := by
    intro p z
    by_cases c : z / 6 < Q ∧ z % 6 < Q ∧ z / 6 ≠ z % 6
    · by_cases hp : p < P
      · obtain ⟨v, hv⟩ := fs_one h hp c.1 c.2.1 c.2.2
        exact ⟨v, fun _ _ _ _ => hv, fun q => absurd c q⟩
      · exact ⟨99, fun q => absurd q hp, fun q => absurd c q⟩
    · exact ⟨99, fun _ a b d => absurd ⟨a, b, d⟩ c, fun _ => rfl⟩
  obtain ⟨T, hT⟩ := Classical.axiomOfChoice (fun p => Classical.axiomOfChoice (hex p))
  refine ⟨T, fun p a b hp ha hb => ?_⟩
  have e1 : (6 * a + b) / 6 = a := by omega
  have e2 : (6 * a + b) % 6 = b := by omega
  have := hT p (6 * a + b)
  rw [e1, e2] at this
  exact ⟨fun c => this.1 hp c.1 c.2.1 c.2.2, this.2⟩
theorem tOk_lt {P Q p z : Nat} {σ0 τ0 : jT} {T : Nat → Nat → Nat} (h : tOk P Q σ0 τ0 T) (hp : p < P) (hz : z < 36) : T p z < P ∨ T p z = 99 := by
  obtain ⟨h1, h2⟩ := h p (z / 6) (z % 6) hp (by omega) (by omega)
  have e : 6 * (z / 6) + z % 6 = z := by omega
  rw [e] at h1 h2
  by_cases c : z / 6 < Q ∧ z % 6 < Q ∧ z / 6 ≠ z % 6
  · exact (h1 c).1
  · exact Or.inr (h2 c)
theorem tOk_Q {P Q p a b : Nat} {σ0 τ0 : jT} {T : Nat → Nat → Nat} (h : tOk P Q σ0 τ0 T) (hp : p < P) (ha : a < 6) (hb : b < 6) (hn : Q ≤ a ∨ Q ≤ b ∨ a = b) : T p (6 * a + b) = 99 := (h p a b hp ha hb).2 (by omega)
/-! the model lays them out -/
def qL (τ τ' : jT) : Prop := (∀ i, i < 4174 ∨ 4177 < i → i ≠ 4185 → i ≠ 4187 → i ≠ 4191 → i ≠ 4196 → τ'.1 i = τ.1 i) ∧ ∀ o, o ≠ 82 → o ≠ 78 → o ≠ 84 → τ'.2 o = τ.2 o
theorem qL_refl (τ : jT) : qL τ τ := ⟨fun _ _ _ _ _ _ => rfl, fun _ _ _ _ => rfl⟩
theorem qL_trans {a b c : jT} (h1 : qL a b) (h2 : qL b c) : qL a c := ⟨fun i a0 a1 a2 a3 a4 => (h2.1 i a0 a1 a2 a3 a4).trans (h1.1 i a0 a1 a2 a3 a4), fun o a1 a2 a3 => (h2.2 o a1 a2 a3).trans (h1.2 o a1 a2 a3)⟩
theorem qL_q {a b : jT} (h : qM a b) : qL a b := ⟨h.1, fun o a1 a2 _ => h.2 o a1 a2⟩
theorem qL_gA {a : jT} {k : Nat} {v : Int32} : qL a (gA a 84 k v) := ⟨fun _ _ _ _ _ _ => rfl, fun o _ _ ho => funext fun j => by rw [ja_gA, if_neg (fun q => ho q.1)]⟩
theorem qL_g {τ τ' : jT} (h : qL τ τ') : coreGM τ' = coreGM τ := by
  unfold coreGM
  rw [h.1 4161 (by decide) (by decide) (by decide) (by decide) (by decide), h.1 4164 (by decide) (by decide) (by decide) (by decide) (by decide), h.1 4165 (by decide) (by decide) (by decide) (by decide) (by decide), h.1 4184 (by decide) (by decide) (by decide) (by decide) (by decide),
    h.2 67 (by decide) (by decide) (by decide), h.2 68 (by decide) (by decide) (by decide), h.2 69 (by decide) (by decide) (by decide), h.2 70 (by decide) (by decide) (by decide), h.2 66 (by decide) (by decide) (by decide), h.2 77 (by decide) (by decide) (by decide)]
theorem qL_core {τ τ' : jT} (h : qL τ τ') : coreM τ' = coreM τ := by
  unfold coreM
  rw [h.1 4169 (by decide) (by decide) (by decide) (by decide) (by decide), h.1 4161 (by decide) (by decide) (by decide) (by decide) (by decide), h.1 4164 (by decide) (by decide) (by decide) (by decide) (by decide), h.1 4165 (by decide) (by decide) (by decide) (by decide) (by decide), h.1 4184 (by decide) (by decide) (by decide) (by decide) (by decide), h.1 4189 (by decide) (by decide) (by decide) (by decide) (by decide), h.1 4208 (by decide) (by decide) (by decide) (by decide) (by decide), h.1 4171 (by decide) (by decide) (by decide) (by decide) (by decide), h.1 4203 (by decide) (by decide) (by decide) (by decide) (by decide),
    h.2 71 (by decide) (by decide) (by decide), h.2 67 (by decide) (by decide) (by decide), h.2 68 (by decide) (by decide) (by decide), h.2 69 (by decide) (by decide) (by decide), h.2 70 (by decide) (by decide) (by decide), h.2 66 (by decide) (by decide) (by decide), h.2 77 (by decide) (by decide) (by decide), h.2 79 (by decide) (by decide) (by decide), h.2 92 (by decide) (by decide) (by decide), h.2 93 (by decide) (by decide) (by decide), h.2 94 (by decide) (by decide) (by decide), h.2 72 (by decide) (by decide) (by decide), h.2 88 (by decide) (by decide) (by decide)]
theorem ix6 {p a b : Nat} (hp : p < 10) (ha : a < 6) (hb : b < 6) : ((nI p * 6 + nI a) * 6) + nI b = nI (36 * p + (6 * a + b)) := by
  have h : ∀ p, p < 10 → ∀ a, a < 6 → (nI p * 6 + nI a) * 6 = nI (36 * p + 6 * a) := by decide
  rw [h p hp a ha, ja_add, Nat.add_assoc]
theorem m_areTwo {Q a b : Nat} {τ : jT} (hQ : Q ≤ 6) (q2 : τ.1 4165 = nI Q) (ha : a < 6) (hb : b < 6) : f_X11_areTwo (nI a) (nI b) τ = some (if a < Q ∧ b < Q ∧ a ≠ b then 1 else 0, τ) := by
  unfold f_X11_areTwo
  by_cases c1 : a < Q
  · rw [m_isRider_t q2 hQ c1]
    simp only [bnd]
    rw [if_neg (show ¬ (1 : Int32) = 0 by decide)]
    by_cases c2 : b < Q
    · rw [m_isRider_t q2 hQ c2]
      simp only [bnd]
      rw [if_neg (show ¬ (1 : Int32) = 0 by decide)]
      by_cases c3 : a = b
      · rw [if_pos (by rw [c3]), if_neg (fun q => q.2.2 c3)]
      · rw [if_neg (fun q => c3 ((ja_eq (by omega) (by omega)).1 q)), if_pos ⟨c1, c2, c3⟩]
    · rw [m_isRider_f q2 hQ (Or.inr ((ja_le (by omega) (by omega)).2 (by omega)))]
      simp only [bnd]
      rw [iT, if_neg (fun q => c2 q.2.1)]
  · rw [m_isRider_f q2 hQ (Or.inr ((ja_le (by omega) (by omega)).2 (by omega)))]
    simp only [bnd]
    rw [iT, if_neg (fun q => c1 q.1)]
/-- the rows that are laid up to z of place p -/
def lRow (T : Nat → Nat → Nat) (p z : Nat) (row : Nat → Int32) : Prop := ∀ p' z', z' < 36 → (p' < p ∨ (p' = p ∧ z' < z)) → row (36 * p' + z') = tI (T p' z')
theorem ls_b {P Q p a : Nat} {σ0 τ0 : jT} {T : Nat → Nat → Nat} (hP : P ≤ 10) (hQ : Q ≤ 6) (q2 : τ0.1 4165 = nI Q) (hT : tOk P Q σ0 τ0 T) (hp : p < P) (ha : a < 6) (k12 : Int32 → Int32 → jT → Option (Int32 × jT)) : ∀ (m b fu : Nat) (τ : jT), b + m = 6 → m < fu → qL τ0 τ → lRow T p (6 * a + b) (τ.2 84) →
    ∃ τ', f_X11_layStops_b20 k12 fu (nI p) (nI a) (nI b) τ = k12 (nI p) (nI (a + 1)) τ' ∧ qL τ0 τ' ∧ lRow T p (6 * (a + 1)) (τ'.2 84) := by
  intro m
  induction m with
  | zero =>
    intro b fu τ hb hf hq hr
    obtain ⟨fu, rfl⟩ : ∃ f', fu = f' + 1 := ⟨fu - 1, by omega⟩
    rw [f_X11_layStops_b20, if_pos (show (6 : Int32) ≤ nI b from by rw [show b = 6 by omega]; decide), nS]
    exact ⟨τ, rfl, hq, by rw [show 6 * (a + 1) = 6 * a + b by omega]; exact hr⟩
  | succ m ih =>
    intro b fu τ hb hf hq hr
    obtain ⟨fu, rfl⟩ : ∃ f', fu = f' + 1 := ⟨fu - 1, by omega⟩
    have q2' : τ.1 4165 = nI Q := by rw [hq.1 4165 (by decide) (by decide) (by decide) (by decide) (by decide)]; exact q2
    rw [f_X11_layStops_b20, if_neg (show ¬ (6 : Int32) ≤ nI b from nI_ge (b := 6) (by omega) (by omega)), m_areTwo hQ q2' ha (by omega)]
    simp only [bnd]
    obtain ⟨t1, t2⟩ := hT p a b hp ha (by omega)
    have key : ∀ τ1 : jT, qL τ0 τ1 → τ1.2 84 = τ.2 84 → ∃ τ', f_X11_layStops_b62 (f_X11_layStops_b20 k12 fu) (nI p) (nI a) (nI b) (tI (T p (6 * a + b))) (((nI p * 6 + nI a) * 6) + nI b) τ1 = k12 (nI p) (nI (a + 1)) τ' ∧ qL τ0 τ' ∧ lRow T p (6 * (a + 1)) (τ'.2 84) := by
      intro τ1 h1 h2
      unfold f_X11_layStops_b62
      rw [ix6 (by omega) ha (by omega), if_pos (ja_in (n := 360) (by omega) (by omega)), nI_clamp (by omega), nS]
      refine ih (b + 1) fu _ (by omega) (by omega) (qL_trans h1 qL_gA) (fun p' z' hz h => ?_)
      rw [ja_gA]
      by_cases c : 36 * p' + z' = 36 * p + (6 * a + b)
      · rw [if_pos ⟨rfl, c⟩, show p' = p by omega, show z' = 6 * a + b by omega]
      · rw [if_neg (fun q => c q.2), h2]
        exact hr p' z' hz (by omega)
    by_cases c : a < Q ∧ b < Q ∧ a ≠ b
    · rw [if_pos c, if_neg (show ¬ (1 : Int32) = 0 by decide)]
      obtain ⟨τ1, e1, e2⟩ := (t1 c).2.2 τ (qL_g hq)
      rw [e1]
      simp only [bnd]
      exact key τ1 (qL_trans hq (qL_q e2)) (e2.2 84 (by decide) (by decide))
    · rw [if_neg c, if_pos rfl]
      have := key τ hq rfl
      rw [t2 c, tI_f (by omega)] at this
      exact this
theorem ls_a {P Q p : Nat} {σ0 τ0 : jT} {T : Nat → Nat → Nat} (hP : P ≤ 10) (hQ : Q ≤ 6) (q2 : τ0.1 4165 = nI Q) (hT : tOk P Q σ0 τ0 T) (hp : p < P) (k2 : Int32 → jT → Option (Int32 × jT)) : ∀ (m a fu : Nat) (τ : jT), a + m = 6 → m < fu → qL τ0 τ → lRow T p (6 * a) (τ.2 84) →
    ∃ τ', f_X11_layStops_b12 k2 fu (nI p) (nI a) τ = k2 (nI (p + 1)) τ' ∧ qL τ0 τ' ∧ lRow T (p + 1) 0 (τ'.2 84) := by
  intro m
  induction m with
  | zero =>
    intro a fu τ ha hf hq hr
    obtain ⟨fu, rfl⟩ : ∃ f', fu = f' + 1 := ⟨fu - 1, by omega⟩
    rw [f_X11_layStops_b12, if_pos (show (6 : Int32) ≤ nI a from by rw [show a = 6 by omega]; decide), nS]
    exact ⟨τ, rfl, hq, fun p' z' hz h => hr p' z' hz (by omega)⟩
  | succ m ih =>
    intro a fu τ ha hf hq hr
    obtain ⟨fu, rfl⟩ : ∃ f', fu = f' + 1 := ⟨fu - 1, by omega⟩
    rw [f_X11_layStops_b12, if_neg (show ¬ (6 : Int32) ≤ nI a from nI_ge (b := 6) (by omega) (by omega))]
    obtain ⟨τ1, e1, e2, e3⟩ := ls_b hP hQ q2 hT hp (show a < 6 by omega) (f_X11_layStops_b12 k2 fu) 6 0 1000 τ (by omega) (by omega) hq hr
    have e1' : f_X11_layStops_b20 (f_X11_layStops_b12 k2 fu) 1000 (nI p) (nI a) 0 τ = _ := e1
    rw [e1']
    exact ih (a + 1) fu τ1 (by omega) (by omega) e2 e3
theorem m_layStops {P Q : Nat} {σ0 τ0 : jT} {T : Nat → Nat → Nat} (hP : P ≤ 10) (hQ : Q ≤ 6) (p2 : τ0.1 4161 = nI P) (q2 : τ0.1 4165 = nI Q) (hT : tOk P Q σ0 τ0 T) : ∃ τ', f_X11_layStops τ0 = some (0, τ') ∧ qL τ0 τ' ∧ lRow T P 0 (τ'.2 84) := by
  have key : ∀ (m p fu : Nat) (τ : jT), p + m = P → m < fu → qL τ0 τ → lRow T p 0 (τ.2 84) → ∃ τ', f_X11_layStops_b2 fu (nI p) τ = some (0, τ') ∧ qL τ0 τ' ∧ lRow T P 0 (τ'.2 84) := by
    intro m
    induction m with
    | zero =>
      intro p fu τ hp hf hq hr
      obtain ⟨fu, rfl⟩ : ∃ f', fu = f' + 1 := ⟨fu - 1, by omega⟩
      rw [f_X11_layStops_b2, hq.1 4161 (by decide) (by decide) (by decide) (by decide) (by decide), p2, if_pos ((ja_le (by omega) (by omega)).2 (by omega))]
      exact ⟨τ, rfl, hq, by rw [show P = p by omega]; exact hr⟩
    | succ m ih =>
      intro p fu τ hp hf hq hr
      obtain ⟨fu, rfl⟩ : ∃ f', fu = f' + 1 := ⟨fu - 1, by omega⟩
      rw [f_X11_layStops_b2, hq.1 4161 (by decide) (by decide) (by decide) (by decide) (by decide), p2, if_neg (fun c => by have := (ja_le (by omega) (by omega)).1 c; omega)]
      obtain ⟨τ1, e1, e2, e3⟩ := ls_a hP hQ q2 hT (show p < P by omega) (f_X11_layStops_b2 fu) 6 0 1000 τ (by omega) (by omega) hq hr
      have e1' : f_X11_layStops_b12 (f_X11_layStops_b2 fu) 1000 (nI p) 0 τ = _ := e1
      rw [e1']
      exact ih (p + 1) fu τ1 (by omega) (by omega) e2 e3
  exact key P 0 1000 τ0 (by omega) (by omega) (qL_refl _) (fun p' z' _ h => by omega)
theorem m_stopAt {P p a b : Nat} {τ : jT} {T : Nat → Nat → Nat} (hP : P ≤ 10) (h : lRow T P 0 (τ.2 84)) (hp : p < P) (ha : a < 6) (hb : b < 6) : f_X11_stopAt (nI p) (nI a) (nI b) τ = some (tI (T p (6 * a + b)), τ) := by
  unfold f_X11_stopAt
  rw [ix6 (by omega) ha hb, if_pos (ja_in (n := 360) (by omega) (by omega)), nI_clamp (by omega), h p (6 * a + b) (by omega) (Or.inl hp)]
