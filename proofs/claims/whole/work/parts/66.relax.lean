/-! ===== changes: the model relaxes ===== -/
theorem dv6 {z : Nat} (hz : z < 36) : nI z / 6 = nI (z / 6) ∧ nI z - nI z / 6 * 6 = nI (z % 6) := by
  have : ∀ z, z < 36 → nI z / 6 = nI (z / 6) ∧ nI z - nI z / 6 * 6 = nI (z % 6) := by decide
  exact this z hz
/-- the ride of pair z from p counts -/
def bZ (T : Nat → Nat → Nat) (In : Nat → Prop) (f t p z : Nat) : Prop := T p z < 10 ∧ (T p z = t ∨ T p z = f ∨ In (T p z))
theorem m_ridesBy {P Q p a b f t : Nat} {σ0 τ0 τ : jT} {T : Nat → Nat → Nat} {In : Nat → Prop} {R : Nat → Nat} (hP : P ≤ 10) (hT : tOk P Q σ0 τ0 T) (hI : rep (τ.1 4164) In) (hr84 : lRow T P 0 (τ.2 84)) (hp : p < P) (ha : a < 6) (hb : b < 6) (hf : f < P) (ht : t < P) (hr : ∀ q, q < P → τ.2 85 q = nI (R q)) (hRF : ∀ q, q < P → R q ≤ gF) (hRt : R t = 0) :
    ∃ v, f_X11_ridesBy (nI p) (nI a) (nI b) (nI f) (nI t) τ = some (nI v, τ) ∧ (bZ T In f t p (6 * a + b) → v = min gF (R (T p (6 * a + b)) + 1)) ∧ (¬ bZ T In f t p (6 * a + b) → v = gF) := by
  have hgF : gF = 1000000 := rfl
  unfold f_X11_ridesBy
  rw [m_stopAt hP hr84 hp ha hb]
  simp only [bnd]
  by_cases c10 : T p (6 * a + b) < 10
  · have hTP : T p (6 * a + b) < P := by rcases tOk_lt hT hp (show 6 * a + b < 36 by omega) with w | w <;> omega
    have hRq := hRF _ hTP
    rw [tI_t c10, if_pos (ja_neg1 (by omega))]
    by_cases c1 : T p (6 * a + b) = t
    · rw [if_neg (fun q => q (by rw [c1]))]
      exact ⟨1, rfl, fun _ => by rw [c1, hRt, hgF]; omega, fun w => absurd ⟨c10, Or.inl c1⟩ w⟩
    · rw [if_pos (fun q => c1 ((ja_eq (by omega) (by omega)).1 q))]
      have e47 : f_X11_ridesBy_b47 (nI (T p (6 * a + b))) τ = some (nI (min gF (R (T p (6 * a + b)) + 1)), τ) := by
        unfold f_X11_ridesBy_b47
        rw [if_pos (ja_in (n := 10) (by omega) (by omega)), nI_clamp (by omega), hr _ hTP, nS]
        exact congrArg (fun x => some (x, τ)) (mn_min 1000000 _ (by omega) (by omega))
      by_cases c2 : T p (6 * a + b) = f
      · rw [if_pos (by rw [c2]), e47]
        exact ⟨_, rfl, fun _ => rfl, fun w => absurd ⟨c10, Or.inr (Or.inl c2)⟩ w⟩
      · rw [if_neg (fun q => c2 ((ja_eq (by omega) (by omega)).1 q))]
        obtain ⟨t1, t2⟩ := rep_has (τ := τ) hI (q := T p (6 * a + b)) (by omega)
        by_cases c3 : In (T p (6 * a + b))
        · rw [t1 c3]
          simp only [bnd]
          rw [if_neg (show ¬ (1 : Int32) = 0 by decide), e47]
          exact ⟨_, rfl, fun _ => rfl, fun w => absurd ⟨c10, Or.inr (Or.inr c3)⟩ w⟩
        · rw [t2 c3]
          simp only [bnd]
          rw [iT]
          exact ⟨gF, rfl, fun w => absurd w.2 (fun w => w.elim c1 (fun w => w.elim c2 c3)), fun _ => rfl⟩
  · rw [tI_f c10, if_neg (fun q => q rfl)]
    exact ⟨gF, rfl, fun w => absurd w.1 c10, fun _ => rfl⟩
def rlR (P : Nat) (R R' : Nat → Nat) (x x' : Int32) : Prop := (∀ q, q < P → R' q ≤ R q) ∧ ((x' = x ∧ ∀ q, q < P → R' q = R q) ∨ (x' = 1 ∧ ∃ q, q < P ∧ R' q < R q))
theorem rl_refl {P : Nat} {R : Nat → Nat} {x : Int32} : rlR P R R x x := ⟨fun _ _ => Nat.le_refl _, Or.inl ⟨rfl, fun _ _ => rfl⟩⟩
theorem rl_trans {P : Nat} {R R1 R2 : Nat → Nat} {x x1 x2 : Int32} (h1 : rlR P R R1 x x1) (h2 : rlR P R1 R2 x1 x2) : rlR P R R2 x x2 := by
  refine ⟨fun q hq => Nat.le_trans (h2.1 q hq) (h1.1 q hq), ?_⟩
  rcases h2.2 with ⟨rfl, e2⟩ | ⟨rfl, q, hq, l2⟩
  · rcases h1.2 with ⟨rfl, e1⟩ | ⟨rfl, q, hq, l1⟩
    · exact Or.inl ⟨rfl, fun q hq => (e2 q hq).trans (e1 q hq)⟩
    · exact Or.inr ⟨rfl, q, hq, by rw [e2 q hq]; exact l1⟩
  · exact Or.inr ⟨rfl, q, hq, Nat.lt_of_lt_of_le l2 (h1.1 q hq)⟩
/-- what holds of the rows while the model relaxes -/
def chI (P : Nat) (T : Nat → Nat → Nat) (In : Nat → Prop) (f t : Nat) (τ0 τ : jT) (R : Nat → Nat) : Prop := fM τ0 τ ∧ gSo (bE P T In f t) t P R ∧ (∀ q, q < P → τ.2 85 q = nI (R q)) ∧ R t = 0
section CHM
variable {P Q f t : Nat} {σ1 τ1 τ0 : jT} {T : Nat → Nat → Nat} {In : Nat → Prop}
theorem ch_b (hP : P ≤ 10) (hQ : Q ≤ 6) (q2 : τ0.1 4165 = nI Q) (hI : rep (τ0.1 4164) In) (hT : tOk P Q σ1 τ1 T) (hr84 : lRow T P 0 (τ0.2 84)) (hf : f < P) (ht : t < P) {p a : Nat} (hp : p < P) (ha : a < Q) (k84 : Int32 → Int32 → Int32 → Int32 → Int32 → jT → Option (Int32 × jT)) : ∀ (m b fu : Nat) (x : Int32) (τ : jT) (R : Nat → Nat), b + m = Q → m < fu → chI P T In f t τ0 τ R →
    ∃ x' τ' R', f_X11_changes_b96 k84 fu (nI f) (nI t) x (nI p) (nI a) (nI b) τ = k84 (nI f) (nI t) x' (nI p) (nI (a + 1)) τ' ∧ chI P T In f t τ0 τ' R' ∧ rlR P R R' x x' ∧ ∀ b', b ≤ b' → b' < Q → bZ T In f t p (6 * a + b') → R' p ≤ R (T p (6 * a + b')) + 1 := by
  have hgF : gF = 1000000 := rfl
  intro m
  induction m with
  | zero =>
    intro b fu x τ R hb hfu hc
    obtain ⟨fu, rfl⟩ : ∃ f', fu = f' + 1 := ⟨fu - 1, by omega⟩
    rw [f_X11_changes_b96, hc.1.1, q2, if_pos ((ja_le (by omega) (by omega)).2 (by omega)), nS]
    exact ⟨x, τ, R, rfl, hc, rl_refl, fun b' h1 h2 => by omega⟩
  | succ m ih =>
    intro b fu x τ R hb hfu hc
    obtain ⟨fu, rfl⟩ : ∃ f', fu = f' + 1 := ⟨fu - 1, by omega⟩
    obtain ⟨hm, hs, hr, hRt⟩ := id hc
    rw [f_X11_changes_b96, hm.1, q2, if_neg (fun c => by have := (ja_le (by omega) (by omega)).1 c; omega)]
    obtain ⟨v, e1, e2, e3⟩ := m_ridesBy (a := a) (b := b) (In := In) (f := f) hP hT (by rw [hm.1]; exact hI) (by rw [hm.2 84 (by decide)]; exact hr84) hp (by omega) (by omega) hf ht hr (fun q hq => (hs q hq).2) hRt
    rw [e1]
    simp only [bnd]
    have hRp := hs p hp
    have hvF : v ≤ gF := by
      by_cases c : bZ T In f t p (6 * a + b)
      · rw [e2 c]; omega
      · rw [e3 c]; omega
    rw [if_pos (ja_in (n := 10) (by omega) (by omega)), nI_clamp (by omega), hr p hp]
    unfold f_X11_changes_b145
    rw [nS]
    by_cases c : v < R p
    · rw [if_pos ((ja_lt (by omega) (by omega)).2 c)]
      have cz : bZ T In f t p (6 * a + b) := Classical.not_not.1 (fun w => by have := e3 w; omega)
      have hTP : T p (6 * a + b) < P := by rcases tOk_lt hT hp (show 6 * a + b < 36 by omega) with w | w <;> have := cz.1 <;> omega
      have hv2 := e2 cz
      have hg := gS_step hP ht bE_lt hs (show bE P T In f t p (T p (6 * a + b)) from ⟨hp, hTP, ⟨cz.1, 6 * a + b, by omega, rfl⟩, cz.2⟩)
      have hpt : p ≠ t := fun w => by rw [w, hRt] at c; omega
      have hc' : chI P T In f t τ0 (gA τ 85 p (nI v)) (fun q => if q = p then v else R q) := by
        refine ⟨fM_trans hm ⟨rfl, fun o ho => funext fun j => by rw [ja_gA, if_neg (fun q => ho q.1)]⟩, fun q hq => ?_, fun q hq => ?_, ?_⟩
        · show gd (bE P T In f t) t q ≤ (if q = p then v else R q) ∧ (if q = p then v else R q) ≤ gF
          by_cases z : q = p
          · rw [if_pos z, z]; omega
          · rw [if_neg z]; exact hs q hq
        · show _ = nI (if q = p then v else R q)
          rw [ja_gA]
          by_cases z : q = p
          · rw [if_pos ⟨rfl, z⟩, if_pos z]
          · rw [if_neg (fun w => z w.2), if_neg z]; exact hr q hq
        · show (if t = p then v else R t) = 0
          rw [if_neg (fun w => hpt w.symm)]; exact hRt
      obtain ⟨x', τ', R', g1, g2, g3, g4⟩ := ih (b + 1) fu 1 _ _ (by omega) (by omega) hc'
      have hrl : rlR P R (fun q => if q = p then v else R q) x 1 := ⟨fun q _ => by
        show (if q = p then v else R q) ≤ R q
        by_cases z : q = p
        · rw [if_pos z, z]; omega
        · rw [if_neg z]; omega, Or.inr ⟨rfl, p, hp, by show (if p = p then v else R p) < R p; rw [if_pos rfl]; exact c⟩⟩
      refine ⟨x', τ', R', g1, g2, rl_trans hrl g3, fun b' h1 h2 h3 => ?_⟩
      have hp' : R' p ≤ v := by
        have := g3.1 p hp
        simp only [if_pos] at this
        exact this
      by_cases z : b' = b
      · rw [z]; omega
      · have := g4 b' (by omega) h2 h3
        by_cases z2 : T p (6 * a + b') = p
        · rw [z2]; omega
        · simp only [if_neg z2] at this; exact this
    · rw [if_neg (fun q => c ((ja_lt (by omega) (by omega)).1 q))]
      obtain ⟨x', τ', R', g1, g2, g3, g4⟩ := ih (b + 1) fu x τ R (by omega) (by omega) hc
      refine ⟨x', τ', R', g1, g2, g3, fun b' h1 h2 h3 => ?_⟩
      by_cases z : b' = b
      · subst z
        have := e2 h3
        have := g3.1 p hp
        omega
      · exact g4 b' (by omega) h2 h3
theorem ch_a (hP : P ≤ 10) (hQ : Q ≤ 6) (q2 : τ0.1 4165 = nI Q) (hI : rep (τ0.1 4164) In) (hT : tOk P Q σ1 τ1 T) (hr84 : lRow T P 0 (τ0.2 84)) (hf : f < P) (ht : t < P) {p : Nat} (hp : p < P) (k72 : Int32 → Int32 → Int32 → Int32 → jT → Option (Int32 × jT)) : ∀ (m a fu : Nat) (x : Int32) (τ : jT) (R : Nat → Nat), a + m = Q → m < fu → chI P T In f t τ0 τ R →
    ∃ x' τ' R', f_X11_changes_b84 k72 fu (nI f) (nI t) x (nI p) (nI a) τ = k72 (nI f) (nI t) x' (nI (p + 1)) τ' ∧ chI P T In f t τ0 τ' R' ∧ rlR P R R' x x' ∧ ∀ z, 6 * a ≤ z → z < 36 → bZ T In f t p z → R' p ≤ R (T p z) + 1 := by
  intro m
  induction m with
  | zero =>
    intro a fu x τ R ha hfu hc
    obtain ⟨fu, rfl⟩ : ∃ f', fu = f' + 1 := ⟨fu - 1, by omega⟩
    rw [f_X11_changes_b84, hc.1.1, q2, if_pos ((ja_le (by omega) (by omega)).2 (by omega)), nS]
    refine ⟨x, τ, R, rfl, hc, rl_refl, fun z h1 h2 h3 => ?_⟩
    have := tOk_Q (a := z / 6) (b := z % 6) hT hp (by omega) (by omega) (by omega)
    rw [show 6 * (z / 6) + z % 6 = z by omega] at this
    have := h3.1
    omega
  | succ m ih =>
    intro a fu x τ R ha hfu hc
    obtain ⟨fu, rfl⟩ : ∃ f', fu = f' + 1 := ⟨fu - 1, by omega⟩
    rw [f_X11_changes_b84, hc.1.1, q2, if_neg (fun c => by have := (ja_le (by omega) (by omega)).1 c; omega)]
    obtain ⟨x1, t1, R1, e1, e2, e3, e4⟩ := ch_b hP hQ q2 hI hT hr84 hf ht hp (show a < Q by omega) (f_X11_changes_b84 k72 fu) Q 0 1000 x τ R (by omega) (by omega) hc
    have e1' : f_X11_changes_b96 (f_X11_changes_b84 k72 fu) 1000 (nI f) (nI t) x (nI p) (nI a) 0 τ = _ := e1
    rw [e1']
    obtain ⟨x', τ', R', g1, g2, g3, g4⟩ := ih (a + 1) fu x1 t1 R1 (by omega) (by omega) e2
    refine ⟨x', τ', R', g1, g2, rl_trans e3 g3, fun z h1 h2 h3 => ?_⟩
    have hTP : T p z < P := by rcases tOk_lt hT hp h2 with w | w <;> have := h3.1 <;> omega
    by_cases c : 6 * (a + 1) ≤ z
    · have a1 := g4 z c h2 h3
      have a2 := e3.1 _ hTP
      omega
    · by_cases cq : z - 6 * a < Q
      · have a1 := e4 (z - 6 * a) (by omega) cq (by rw [show 6 * a + (z - 6 * a) = z by omega]; exact h3)
        rw [show 6 * a + (z - 6 * a) = z by omega] at a1
        have a2 := g3.1 p hp
        omega
      · have := tOk_Q (a := a) (b := z - 6 * a) hT hp (by omega) (by omega) (by omega)
        rw [show 6 * a + (z - 6 * a) = z by omega] at this
        have := h3.1
        omega
theorem ch_p (hP : P ≤ 10) (hQ : Q ≤ 6) (p2 : τ0.1 4161 = nI P) (q2 : τ0.1 4165 = nI Q) (hI : rep (τ0.1 4164) In) (hT : tOk P Q σ1 τ1 T) (hr84 : lRow T P 0 (τ0.2 84)) (hf : f < P) (ht : t < P) (k63 : Int32 → Int32 → Int32 → jT → Option (Int32 × jT)) : ∀ (m p fu : Nat) (x : Int32) (τ : jT) (R : Nat → Nat), p + m = P → m < fu → chI P T In f t τ0 τ R →
    ∃ x' τ' R', f_X11_changes_b72 k63 fu (nI f) (nI t) x (nI p) τ = k63 (nI f) (nI t) x' τ' ∧ chI P T In f t τ0 τ' R' ∧ rlR P R R' x x' ∧ ∀ p' q, p ≤ p' → bE P T In f t p' q → R' p' ≤ R q + 1 := by
  intro m
  induction m with
  | zero =>
    intro p fu x τ R hp hfu hc
    obtain ⟨fu, rfl⟩ : ∃ f', fu = f' + 1 := ⟨fu - 1, by omega⟩
    rw [f_X11_changes_b72, hc.1.1, p2, if_pos ((ja_le (by omega) (by omega)).2 (by omega))]
    exact ⟨x, τ, R, rfl, hc, rl_refl, fun p' q h1 h2 => by have := h2.1; omega⟩
  | succ m ih =>
    intro p fu x τ R hp hfu hc
    obtain ⟨fu, rfl⟩ : ∃ f', fu = f' + 1 := ⟨fu - 1, by omega⟩
    rw [f_X11_changes_b72, hc.1.1, p2, if_neg (fun c => by have := (ja_le (by omega) (by omega)).1 c; omega)]
    obtain ⟨x1, t1, R1, e1, e2, e3, e4⟩ := ch_a hP hQ q2 hI hT hr84 hf ht (show p < P by omega) (f_X11_changes_b72 k63 fu) Q 0 1000 x τ R (by omega) (by omega) hc
    have e1' : f_X11_changes_b84 (f_X11_changes_b72 k63 fu) 1000 (nI f) (nI t) x (nI p) 0 τ = _ := e1
    rw [e1']
    obtain ⟨x', τ', R', g1, g2, g3, g4⟩ := ih (p + 1) fu x1 t1 R1 (by omega) (by omega) e2
    refine ⟨x', τ', R', g1, g2, rl_trans e3 g3, fun p' q h1 h2 => ?_⟩
    by_cases c : p' = p
    · subst c
      obtain ⟨b1, b2, ⟨b3, z, b4, b5⟩, b6⟩ := h2
      have a1 := e4 z (by omega) b4 ⟨by omega, by rw [b5]; exact b6⟩
      rw [b5] at a1
      have a2 := g3.1 p' b1
      omega
    · have a1 := g4 p' q (by omega) h2
      have a2 := e3.1 q h2.2.1
      omega
theorem ch_while (hP : P ≤ 10) (hQ : Q ≤ 6) (p2 : τ0.1 4161 = nI P) (q2 : τ0.1 4165 = nI Q) (hI : rep (τ0.1 4164) In) (hT : tOk P Q σ1 τ1 T) (hr84 : lRow T P 0 (τ0.2 84)) (hf : f < P) (ht : t < P) : ∀ (m k fu : Nat) (τ : jT) (R : Nat → Nat), k + m = 10 → m + 1 < fu → chI P T In f t τ0 τ R → gCo (bE P T In f t) t P k R →
    ∃ τ', f_X11_changes_b63 fu (nI f) (nI t) 1 τ = (if gd (bE P T In f t) t f < gF then f_X11_changes_b192 1000 (nI f) (nI t) (nI f) 0 (gs τ' 4171 0) else some (-2, τ')) ∧ chI P T In f t τ0 τ' (gd (bE P T In f t) t) := by
  have hgF : gF = 1000000 := rfl
  -- nothing changed: all is as it should be
  have done : ∀ (fu : Nat) (τ : jT) (R : Nat → Nat), chI P T In f t τ0 τ R → (∀ q, q < P → R q = gd (bE P T In f t) t q) → ∃ τ', f_X11_changes_b63 (fu + 1) (nI f) (nI t) 0 τ = (if gd (bE P T In f t) t f < gF then f_X11_changes_b192 1000 (nI f) (nI t) (nI f) 0 (gs τ' 4171 0) else some (-2, τ')) ∧ chI P T In f t τ0 τ' (gd (bE P T In f t) t) := by
    intro fu τ R hc hR
    refine ⟨τ, ?_, hc.1, fun q hq => ?_, fun q hq => by rw [hc.2.2.1 q hq, hR q hq], gd_t⟩
    · rw [f_X11_changes_b63, if_pos rfl, if_pos (ja_in (n := 10) (by omega) (by omega)), nI_clamp (by omega), hc.2.2.1 f hf, hR f hf]
      have hd := gd_cases hP ht (bE_lt (T := T) (In := In) (f := f) (t := t)) hf
      by_cases c : gd (bE P T In f t) t f < gF
      · rw [if_pos c, if_pos (show ¬ nI (gd (bE P T In f t) t f) = 1000000 from fun q => by have := (ja_eq (b := 1000000) (by omega) (by omega)).1 q; omega)]
      · rw [if_neg c, if_neg (show ¬ ¬ nI (gd (bE P T In f t) t f) = 1000000 from fun q => q (by rw [show gd (bE P T In f t) t f = gF by omega]; rfl))]
    · have := gd_cases hP ht (bE_lt (T := T) (In := In) (f := f) (t := t)) hq
      omega
  intro m
  induction m with
  | zero =>
    intro k fu τ R hk hfu hc hk2
    obtain ⟨fu, rfl⟩ : ∃ f', fu = f' + 1 := ⟨fu - 1, by omega⟩
    obtain ⟨fu, rfl⟩ : ∃ f', fu = f' + 1 := ⟨fu - 1, by omega⟩
    have hR : ∀ q, q < P → R q = gd (bE P T In f t) t q := fun q hq => gC_all hP ht bE_lt (by omega) hc.2.1 hk2 hq
    rw [f_X11_changes_b63, if_neg (show ¬ (1 : Int32) = 0 by decide)]
    obtain ⟨x', τ', R', e1, e2, e3, e4⟩ := ch_p hP hQ p2 q2 hI hT hr84 hf ht (f_X11_changes_b63 (fu + 1)) P 0 1000 0 τ R (by omega) (by omega) hc
    have e1' : f_X11_changes_b72 (f_X11_changes_b63 (fu + 1)) 1000 (nI f) (nI t) 0 0 τ = _ := e1
    rw [e1']
    rcases e3.2 with ⟨rfl, he⟩ | ⟨_, q, hq, hl⟩
    · exact done fu τ' R' e2 (fun q hq => (he q hq).trans (hR q hq))
    · have a1 := (e2.2.1 q hq).1
      have a2 := hR q hq
      omega
  | succ m ih =>
    intro k fu τ R hk hfu hc hk2
    obtain ⟨fu, rfl⟩ : ∃ f', fu = f' + 1 := ⟨fu - 1, by omega⟩
    obtain ⟨fu, rfl⟩ : ∃ f', fu = f' + 1 := ⟨fu - 1, by omega⟩
    rw [f_X11_changes_b63, if_neg (show ¬ (1 : Int32) = 0 by decide)]
    obtain ⟨x', τ', R', e1, e2, e3, e4⟩ := ch_p hP hQ p2 q2 hI hT hr84 hf ht (f_X11_changes_b63 (fu + 1)) P 0 1000 0 τ R (by omega) (by omega) hc
    have e1' : f_X11_changes_b72 (f_X11_changes_b63 (fu + 1)) 1000 (nI f) (nI t) 0 0 τ = _ := e1
    rw [e1']
    rcases e3.2 with ⟨rfl, he⟩ | ⟨rfl, _⟩
    · have hfix : ∀ j, gCo (bE P T In f t) t P (k + j) R ∨ 1000 < k + j := by
        intro j
        induction j with
        | zero => exact Or.inl hk2
        | succ j ihj =>
          rcases ihj with ihj | ihj
          · by_cases cj : k + j ≤ 1000
            · exact Or.inl (gC_step (k := k + j) (by omega) bE_lt ihj (fun _ _ => Nat.le_refl _) (fun p q h => by
                have := e4 p q (by omega) h
                rw [he p h.1] at this
                exact this))
            · exact Or.inr (by omega)
          · exact Or.inr (by omega)
      refine done fu τ' R' e2 (fun q hq => (he q hq).trans ?_)
      rcases hfix 10 with w | w
      · exact gC_all hP ht bE_lt (by omega) hc.2.1 w hq
      · omega
    · exact ih (k + 1) (fu + 1) τ' R' (by omega) (by omega) e2 (gC_step (by omega) bE_lt hk2 e3.1 (fun p q h => e4 p q (by omega) h))
theorem ch_init (hP : P ≤ 10) (p2 : τ0.1 4161 = nI P) (ht : t < P) {x1 : Int32} : ∀ (m k fu : Nat) (τ : jT), k + m = P → m < fu → fM τ0 τ → (∀ q, q < k → τ.2 85 q = nI (if q = t then 0 else gF)) → ∃ τ', f_X11_changes_b29 fu x1 (nI t) (nI k) τ = f_X11_changes_b63 1000 x1 (nI t) 1 τ' ∧ fM τ0 τ' ∧ ∀ q, q < P → τ'.2 85 q = nI (if q = t then 0 else gF) := by
  intro m
  induction m with
  | zero =>
    intro k fu τ hk hf hm hr
    obtain ⟨fu, rfl⟩ : ∃ f', fu = f' + 1 := ⟨fu - 1, by omega⟩
    rw [f_X11_changes_b29, hm.1, p2, if_pos ((ja_le (by omega) (by omega)).2 (by omega))]
    exact ⟨τ, rfl, hm, fun q hq => hr q (by omega)⟩
  | succ m ih =>
    intro k fu τ hk hf hm hr
    obtain ⟨fu, rfl⟩ : ∃ f', fu = f' + 1 := ⟨fu - 1, by omega⟩
    rw [f_X11_changes_b29, hm.1, p2, if_neg (fun c => by have := (ja_le (by omega) (by omega)).1 c; omega)]
    have key : ∀ v : Int32, (v = nI (if k = t then 0 else gF)) → ∃ τ', f_X11_changes_b54 (f_X11_changes_b29 fu) x1 (nI t) (nI k) v (nI k) τ = f_X11_changes_b63 1000 x1 (nI t) 1 τ' ∧ fM τ0 τ' ∧ ∀ q, q < P → τ'.2 85 q = nI (if q = t then 0 else gF) := by
      intro v hv
      unfold f_X11_changes_b54
      rw [if_pos (ja_in (n := 10) (by omega) (by omega)), nI_clamp (by omega), nS]
      refine ih (k + 1) fu _ (by omega) (by omega) (fM_trans hm ⟨rfl, fun o ho => funext fun j => by rw [ja_gA, if_neg (fun q => ho q.1)]⟩) (fun q hq => ?_)
      rw [ja_gA]
      by_cases z : q = k
      · rw [if_pos ⟨rfl, z⟩, z, hv]
      · rw [if_neg (fun w => z w.2)]; exact hr q (by omega)
    by_cases c : k = t
    · rw [if_neg (fun q => q (by rw [c]))]
      exact key 0 (by rw [if_pos c]; rfl)
    · rw [if_pos (fun q => c ((ja_eq (by omega) (by omega)).1 q))]
      exact key 1000000 (by rw [if_neg c]; rfl)
end CHM
