/-! ===== matches ===== -/
def bcI (x : Int32) : Int32 := match f_J6_bitCount_0f7a4 x (fun _ => 0, fun _ _ => 0) with
  | some q => q.1
  | none => 0
theorem bc_eq {t : Nat} (ht : t < 64) (σ : jT) : f_J6_bitCount_0f7a4 (nI t) σ = some (nI (pcnt t 6), σ) := by
  obtain ⟨v, hv⟩ := j_bc (nI t)
  have e : bcI (nI t) = v := by unfold bcI; rw [hv]
  have key : ∀ t, t < 64 → bcI (nI t) = nI (pcnt t 6) := by decide +kernel
  rw [hv, ← e, key t ht]
theorem pcnt_cN (t k : Nat) : pcnt t k = cN (fun i => t / 2 ^ i % 2 = 1) k := by
  induction k with
  | zero => rfl
  | succ k ih =>
    rw [pcnt_s, ih]
    show _ = cN (fun i => t / 2 ^ i % 2 = 1) k + @ite _ (t / 2 ^ k % 2 = 1) (Classical.propDecidable _) 1 0
    by_cases c : t / 2 ^ k % 2 = 1
    · rw [if_pos c, if_pos c]
    · rw [if_neg c, if_neg c]
theorem cN_iff {A B : Nat → Prop} (n : Nat) (h : ∀ i, i < n → (A i ↔ B i)) : cN A n = cN B n :=
  Nat.le_antisymm (cN_mono n (fun i hi => (h i hi).1)) (cN_mono n (fun i hi => (h i hi).2))
theorem cN_add {A B : Nat → Prop} {n j : Nat} (hj : j < n) (hA : ¬ A j) (h : ∀ i, i < n → (B i ↔ A i ∨ i = j)) : cN B n = cN A n + 1 := by
  induction n with
  | zero => omega
  | succ n ih =>
    unfold cN
    by_cases e : j = n
    · subst e
      have h1 : cN B j = cN A j := cN_iff j (fun i hi => (h i (by omega)).trans ⟨fun q => q.elim id (fun q => by omega), Or.inl⟩)
      rw [if_pos ((h j (by omega)).2 (Or.inr rfl)), if_neg hA, h1]
    · have h1 := ih (by omega) (fun i hi => h i (by omega))
      have h2 := h n (by omega)
      by_cases a : A n
      · rw [if_pos a, if_pos (h2.2 (Or.inl a)), h1]
      · rw [if_neg a, if_neg (fun q => (h2.1 q).elim a (fun q => e q.symm)), h1]
theorem cN_none {A : Nat → Prop} (n : Nat) (h : ∀ i, i < n → ¬ A i) : cN A n = 0 := by
  induction n with
  | zero => rfl
  | succ n ih => unfold cN; rw [ih (fun i hi => h i (by omega)), if_neg (h n (by omega))]
/-- how many steps two ride from p -/
def stT (Q : Nat) (p : Nat) (σ0 τ0 : jT) (S : Nat → Nat → Nat) : Prop := ∀ a b, a < Q → b < Q → a ≠ b → S a b ≤ 200 ∧ (∀ σ, coreGC σ = coreGC σ0 → ∃ σ', f_X10_stepsOf (nI a) (nI b) (nI p) σ = some (nI (S a b), σ') ∧ qC σ σ') ∧ ∀ τ, coreGM τ = coreGM τ0 → ∃ τ', f_X11_stepsOf (nI a) (nI b) (nI p) τ = some (nI (S a b), τ') ∧ qM τ τ'
theorem st_table {P Q p : Nat} {σ0 τ0 : jT} (h : rG P Q σ0 τ0) (hp : p < P) : ∃ S, stT Q p σ0 τ0 S := by
  have hex : ∀ a b, ∃ k, a < Q → b < Q → a ≠ b → k ≤ 200 ∧ (∀ σ, coreGC σ = coreGC σ0 → ∃ σ', f_X10_stepsOf (nI a) (nI b) (nI p) σ = some (nI k, σ') ∧ qC σ σ') ∧ ∀ τ, coreGM τ = coreGM τ0 → ∃ τ', f_X11_stepsOf (nI a) (nI b) (nI p) τ = some (nI k, τ') ∧ qM τ τ' := by
    intro a b
    by_cases c : a < Q ∧ b < Q ∧ a ≠ b
    · obtain ⟨k, σ', τ', hk, e1, e2, e3, e4⟩ := steps_both h c.1 c.2.1 c.2.2 hp
      refine ⟨k, fun _ _ _ => ⟨hk, fun σ hσ => ?_, fun τ hτ => ?_⟩⟩
      · obtain ⟨k2, s2, t2, hk2, f1, f2, f3, f4⟩ := steps_both (rG_core h hσ rfl : rG P Q σ τ0) c.1 c.2.1 c.2.2 hp
        have : nI k2 = nI k := by
          have := f2.symm.trans e2
          injection this with this
          exact congrArg Prod.fst this
        exact ⟨s2, by rw [f1, this], f3⟩
      · obtain ⟨k2, s2, t2, hk2, f1, f2, f3, f4⟩ := steps_both (rG_core h rfl hτ : rG P Q σ0 τ) c.1 c.2.1 c.2.2 hp
        have : nI k2 = nI k := by
          have := f1.symm.trans e1
          injection this with this
          exact congrArg Prod.fst this
        exact ⟨t2, by rw [f2, this], f4⟩
    · exact ⟨0, fun h1 h2 h3 => absurd ⟨h1, h2, h3⟩ c⟩
  obtain ⟨S, hS⟩ := Classical.axiomOfChoice (fun a => Classical.axiomOfChoice (hex a))
  exact ⟨S, fun a b h1 h2 h3 => hS a b h1 h2 h3⟩
def gF1 (σ σ' : jT) : Prop := (∀ i, i ≠ 3715 → σ'.1 i = σ.1 i) ∧ ∀ o, o ≠ 60 → o ≠ 61 → σ'.2 o = σ.2 o
def gF2 (τ τ' : jT) : Prop := (∀ i, i < 4174 ∨ 4177 < i → i ≠ 4185 → i ≠ 4187 → i ≠ 4191 → i ≠ 4196 → i ≠ 4201 → τ'.1 i = τ.1 i) ∧ ∀ o, o ≠ 82 → o ≠ 78 → o ≠ 86 → o ≠ 87 → τ'.2 o = τ.2 o
theorem gF1_trans {a b c : jT} (h1 : gF1 a b) (h2 : gF1 b c) : gF1 a c := ⟨fun i h => (h2.1 i h).trans (h1.1 i h), fun o a1 a2 => (h2.2 o a1 a2).trans (h1.2 o a1 a2)⟩
theorem gF2_trans {a b c : jT} (h1 : gF2 a b) (h2 : gF2 b c) : gF2 a c := ⟨fun i a0 a1 a2 a3 a4 a5 => (h2.1 i a0 a1 a2 a3 a4 a5).trans (h1.1 i a0 a1 a2 a3 a4 a5), fun o a1 a2 a3 a4 => (h2.2 o a1 a2 a3 a4).trans (h1.2 o a1 a2 a3 a4)⟩
theorem gF2_q {a b : jT} (h : qM a b) : gF2 a b := ⟨fun i a0 a1 a2 a3 a4 _ => h.1 i a0 a1 a2 a3 a4, fun o a1 a2 _ _ => h.2 o a1 a2⟩
theorem gF1_60 {a : jT} {k : Nat} {v : Int32} : gF1 a (gA a 60 k v) := ⟨fun _ _ => rfl, fun o h1 _ => funext fun j => by rw [ja_gA, if_neg (fun q => h1 q.1)]⟩
theorem gF2_86 {a : jT} {k : Nat} {v : Int32} : gF2 a (gA a 86 k v) := ⟨fun _ _ _ _ _ _ _ => rfl, fun o _ _ h1 _ => funext fun j => by rw [ja_gA, if_neg (fun q => h1 q.1)]⟩
theorem gF2_g {τ τ' : jT} (h : gF2 τ τ') : coreGM τ' = coreGM τ := by
  unfold coreGM
  rw [h.1 4161 (by decide) (by decide) (by decide) (by decide) (by decide) (by decide), h.1 4164 (by decide) (by decide) (by decide) (by decide) (by decide) (by decide), h.1 4165 (by decide) (by decide) (by decide) (by decide) (by decide) (by decide), h.1 4184 (by decide) (by decide) (by decide) (by decide) (by decide) (by decide),
    h.2 67 (by decide) (by decide) (by decide) (by decide), h.2 68 (by decide) (by decide) (by decide) (by decide), h.2 69 (by decide) (by decide) (by decide) (by decide), h.2 70 (by decide) (by decide) (by decide) (by decide), h.2 66 (by decide) (by decide) (by decide) (by decide), h.2 77 (by decide) (by decide) (by decide) (by decide)]
/-- what holds while RIDERS are parted: R are not parted yet -/
def mtI (Q : Nat) (σ0 τ0 σ τ : jT) (R : Nat → Prop) : Prop := gF1 σ0 σ ∧ gF2 τ0 τ ∧ (∀ i, i < 6 → ¬ R i → σ.2 60 i = τ.2 86 i) ∧ (∀ i, i < 6 → R i → τ.2 86 i = -1) ∧ σ.1 3715 = τ.1 4201 ∧
  (σ.1 3715 = -1 ∨ ∃ s, s ≤ 2000 ∧ σ.1 3715 = nI s ∧ ∀ i, i < Q → σ.2 61 i = τ.2 87 i)
/-- the model's best parting is noted -/
theorem mt_copy {Q : Nat} (hQ : Q ≤ 6) (rec : Nat → List Int32 → jT → Option (Int32 × jT)) : ∀ (m k fu : Nat) (τ : jT), k + m = Q → m < fu → τ.1 4165 = nI Q → ∃ τ', f_X11_goMatches_b27 rec fu (nI k) τ = some (0, τ') ∧ τ'.1 = τ.1 ∧ (∀ o, o ≠ 87 → τ'.2 o = τ.2 o) ∧ (∀ i, i < k → τ'.2 87 i = τ.2 87 i) ∧ ∀ i, k ≤ i → i < Q → τ'.2 87 i = τ.2 86 i := by
  intro m
  induction m with
  | zero =>
    intro k fu τ hk hf q2
    obtain ⟨fu, rfl⟩ : ∃ f', fu = f' + 1 := ⟨fu - 1, by omega⟩
    rw [f_X11_goMatches_b27, q2, if_pos ((ja_le (by omega) (by omega)).2 (by omega))]
    exact ⟨τ, rfl, rfl, fun _ _ => rfl, fun _ _ => rfl, fun i h1 h2 => by omega⟩
  | succ m ih =>
    intro k fu τ hk hf q2
    obtain ⟨fu, rfl⟩ : ∃ f', fu = f' + 1 := ⟨fu - 1, by omega⟩
    rw [f_X11_goMatches_b27, q2, if_neg (fun c => by have := (ja_le (by omega) (by omega)).1 c; omega), if_pos (ja_in (n := 6) (by omega) (by omega)), nI_clamp (by omega), nS]
    obtain ⟨τ', e1, e2, e3, e4, e5⟩ := ih (k + 1) fu (gA τ 87 k (τ.2 86 k)) (by omega) (by omega) q2
    refine ⟨τ', e1, e2, fun o ho => (e3 o ho).trans (funext fun j => by rw [ja_gA, if_neg (fun q => ho q.1)]), fun i hi => ?_, fun i h1 h2 => ?_⟩
    · rw [e4 i (by omega), ja_gA, if_neg (fun q => by omega)]
    · by_cases z : i = k
      · rw [e4 i (by omega), ja_gA, if_pos ⟨rfl, z⟩, z]
      · rw [e5 i (by omega) h2, ja_gA, if_neg (fun q => absurd q.1 (by decide))]
/-- the class, where no one is left to part -/
theorem mt_leaf {x o : Int32} {R : Nat → Prop} {s : Nat} (hx : rep x R) (hs : s ≤ 2000) : ∀ (m one fu : Nat) (σ : jT), one + m = 6 → m < fu → (∀ i, one ≤ i → ¬ R i) → f_rec1 fu 0 [nI one, x, nI s, o] σ = some (0, if nI s ≤ σ.1 3715 then σ else gC (gs σ 3715 (nI s)) 60 61 0 0 6) := by
  intro m
  induction m with
  | zero =>
    intro one fu σ h1 hf hR
    obtain ⟨fu, rfl⟩ : ∃ f', fu = f' + 1 := ⟨fu - 1, by omega⟩
    rw [f_rec1]
    unfold f_X4_part
    rw [if_neg (show ¬ nI one < 6 from by rw [show one = 6 by omega]; decide)]
    by_cases c : nI s ≤ σ.1 3715
    · rw [if_pos c, if_pos c]
    · rw [if_neg c, if_neg c]
  | succ m ih =>
    intro one fu σ h1 hf hR
    obtain ⟨fu, rfl⟩ : ∃ f', fu = f' + 1 := ⟨fu - 1, by omega⟩
    rw [f_rec1]
    unfold f_X4_part
    rw [if_pos (show nI one < 6 from (ja_lt (b := 6) (by omega) (by omega)).2 (by omega)), (rep_test hx (q := one) (by omega)).2 (hR one (Nat.le_refl _)), if_neg (fun q => q rfl), nS, ih (one + 1) fu σ (by omega) (by omega) (fun i hi => hR i (by omega))]
    simp only [bnd]
theorem mt_end {Q one : Nat} {x o : Int32} {p s : Nat} {R : Nat → Prop} {σ0 τ0 σ τ : jT} {fuC fuM : Nat} (hQ : Q ≤ 6) (q2 : τ0.1 4165 = nI Q) (hx : rep x R) (hs : s ≤ 2000) (h1 : one = Q) (hfC : 6 - one < fuC) (hfM : 0 < fuM) (hR : ∀ i, R i → one ≤ i ∧ i < Q) (hi : mtI Q σ0 τ0 σ τ R) :
    ∃ σ' τ', f_rec1 fuC 0 [nI one, x, nI s, o] σ = some (0, σ') ∧ f_rec4 fuM 0 [nI one, x, o, nI s, nI p] τ = some (0, τ') ∧ mtI Q σ0 τ0 σ' τ' R ∧ (¬ σ'.1 3715 = -1) ∧ ∀ i, ¬ R i → τ'.2 86 i = τ.2 86 i := by
  subst h1
  obtain ⟨i1, i2, i3, i4, i5, i6⟩ := id hi
  have hnR : ∀ i, ¬ R i := fun i h => by have := hR i h; omega
  rw [mt_leaf hx hs (6 - one) one fuC σ (by omega) hfC (fun i _ => hnR i)]
  obtain ⟨fuM, rfl⟩ : ∃ f', fuM = f' + 1 := ⟨fuM - 1, by omega⟩
  have q2' : τ.1 4165 = nI one := by rw [i2.1 4165 (by decide) (by decide) (by decide) (by decide) (by decide) (by decide)]; exact q2
  rw [f_rec4]
  unfold f_X11_goMatches
  rw [q2', if_neg (show ¬ ¬ nI one = nI one from fun q => q rfl), ← i5]
  by_cases c : nI s ≤ σ.1 3715
  · have c' : ¬ σ.1 3715 < nI s := Int32.not_lt.2 c
    rw [if_pos c, if_neg c']
    refine ⟨σ, τ, rfl, rfl, hi, fun q => ?_, fun _ _ => rfl⟩
    rw [q, Int32.le_iff_toInt_le, nI_toInt (by omega)] at c
    have : (-1 : Int32).toInt = -1 := by decide
    omega
  · have c' : σ.1 3715 < nI s := Int32.not_le.1 c
    rw [if_neg c, if_pos c']
    obtain ⟨τ', e1, e2, e3, e4, e5⟩ := mt_copy hQ (f_rec4 fuM) one 0 1000 (gs τ 4201 (nI s)) (by omega) (by omega) q2'
    have e1' : f_X11_goMatches_b27 (f_rec4 fuM) 1000 0 (gs τ 4201 (nI s)) = _ := e1
    rw [e1']
    have hcp : ∀ i, i < 6 → (gC (gs σ 3715 (nI s)) 60 61 0 0 6).2 61 i = σ.2 60 i := by
      intro i hi
      show va_cpy (σ.2 60) (σ.2 61) 0 0 6 i = σ.2 60 i
      unfold va_cpy
      rcases (show i = 0 ∨ i = 1 ∨ i = 2 ∨ i = 3 ∨ i = 4 ∨ i = 5 by omega) with rfl | rfl | rfl | rfl | rfl | rfl <;> rfl
    refine ⟨_, τ', rfl, rfl, ⟨gF1_trans i1 ⟨fun z hz => if_neg hz, fun z _ hz => if_neg hz⟩, gF2_trans i2 ⟨fun z _ _ _ _ _ h6 => ?_, fun z _ _ _ h4 => e3 z h4⟩, fun i hi6 hr => ?_, fun i _ hr => absurd hr (hnR i), ?_, Or.inr ⟨s, hs, rfl, fun i hiQ => ?_⟩⟩, fun q => absurd q (ja_neg1 (by omega)), fun i _ => by rw [e3 86 (by decide)]; rfl⟩
    · rw [e2]; exact if_neg h6
    · show σ.2 60 i = τ'.2 86 i
      rw [e3 86 (by decide)]
      exact i3 i hi6 hr
    · show nI s = τ'.1 4201
      rw [e2]; rfl
    · rw [hcp i (by omega), e5 i (Nat.zero_le _) hiQ]
      exact i3 i (by omega) (hnR i)
