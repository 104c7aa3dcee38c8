/-! ===== what both sides hold: the relation ===== -/
def pastC (σ : jT) (i : Nat) : Nat → Int32 := match i with
  | 0 => σ.2 17
  | 1 => σ.2 19
  | 2 => σ.2 21
  | 3 => σ.2 23
  | 4 => σ.2 25
  | 5 => σ.2 27
  | 6 => σ.2 29
  | 7 => σ.2 31
  | 8 => σ.2 33
  | 9 => σ.2 35
  | 10 => σ.2 37
  | 11 => σ.2 39
  | _ => σ.2 41
def keptC (σ : jT) (i : Nat) : Nat → Int32 := match i with
  | 0 => σ.2 44
  | _ => σ.2 46
/-- a place's number, or 0 where there are none -/
def rPl (P q : Nat) : Prop := q < P ∨ (q = 0 ∧ P = 0)
def rT (σ τ : jT) : Prop := ∃ L, L ≤ 80 ∧ σ.1 65 = nI L ∧ τ.1 4169 = nI L ∧ ∀ j, j < L → σ.2 2 j = (τ.2 71 j) &&& 255 ∧ -128 ≤ τ.2 71 j ∧ τ.2 71 j ≤ 127
def rL (P : Nat) (σ τ : jT) : Prop := P ≤ 10 ∧ σ.1 195 = nI P ∧ τ.1 4161 = nI P ∧ (∃ b, b < 2 ^ P ∧ σ.1 196 = nI b ∧ τ.1 4164 = nI b) ∧
  (∀ p, p < P → ∃ w, w ≤ 3 ∧ σ.2 4 p = nI w ∧ τ.2 67 p = nI w ∧ (∀ k, k < w → ∃ q, q < P ∧ σ.2 5 (3 * p + k) = nI q ∧ τ.2 68 (3 * p + k) = nI q) ∧ ∀ k, w ≤ k → k < 3 → τ.2 68 (3 * p + k) = -1) ∧ (P = 0 → τ.2 67 0 = 0)
def rR (Q : Nat) (σ τ : jT) : Prop := Q ≤ 6 ∧ σ.1 197 = nI Q ∧ τ.1 4165 = nI Q ∧ ∀ r, r < Q → ∃ m, 1 ≤ m ∧ m ≤ 99 ∧ σ.2 6 r = nI m ∧ τ.2 69 r = nI m
/-- how THE HORSE and the RIDERS stand: the class's row cn, the model's row mn, the model's digits dg -/
def rS (P Q : Nat) (dg cn mn : Nat → Int32) : Prop :=
  (∃ h, rPl P h ∧ cn 24 = nI h ∧ mn 0 = nI h) ∧ cn 25 = mn 1 ∧ cn 26 = mn 2 ∧ cn 27 = mn 3 ∧
  ((cn 25 = -1 ∧ cn 26 = -1 ∧ cn 27 = 0) ∨ ∃ f g, f < Q ∧ g < Q ∧ f ≠ g ∧ cn 25 = nI f ∧ cn 26 = nI g ∧ cn (6 + f) = cn 24 ∧ cn (6 + g) = cn 24) ∧
  ∀ r, r < Q → (∃ v, v ≤ 99 ∧ cn r = nI v ∧ mn (4 + r) = nI v) ∧ (∃ q, rPl P q ∧ cn (6 + r) = nI q ∧ mn (10 + r) = nI q) ∧
    (cn (12 + r) = mn (16 + r) ∧ (cn (12 + r) = -1 ∨ ∃ b, b < Q ∧ cn (12 + r) = nI b)) ∧
    ∃ j M, j < Q ∧ M < 4 ^ P ∧ mn (22 + r) = nI j ∧ cn (18 + r) = nI M ∧ ∀ p, p < P → dg (10 * j + p) = nI (M / 4 ^ p % 4) ∧ M / 4 ^ p % 4 ≤ 2
def rN (P Q : Nat) (σ τ : jT) : Prop := rS P Q (τ.2 70) (σ.2 13) (τ.2 66) ∧ ∀ r, r < Q → σ.2 13 r ≤ σ.2 6 r
def rH (P Q : Nat) (σ τ : jT) : Prop := ∃ S N, S ≤ 12 ∧ N < 13 ∧ σ.1 899 = nI S ∧ τ.1 4189 = nI S ∧ σ.1 898 = nI N ∧ ∀ i, i < S → rS P Q (τ.2 70) (pastC σ ((N + 12 - i) % 13)) (fun k => τ.2 79 (28 * (S - 1 - i) + k))
def rK (n P Q : Nat) (σ τ : jT) : Prop := ∃ c b, c ≤ n ∧ b < 4 ∧ τ.1 4208 = nI c ∧ σ.1 900 = nI b ∧ ∀ i, i < 2 → (∃ k, k ≤ c ∧ τ.2 94 i = nI k ∧ (b / 2 ^ i % 2 = 1 ↔ τ.2 93 i = 1 ∧ k = c)) ∧ (τ.2 93 i = 0 ∨ τ.2 93 i = 1) ∧ (b / 2 ^ i % 2 = 1 → rS P Q (τ.2 70) (keptC σ i) (fun k => τ.2 92 (28 * i + k)))
def rW (σ τ : jT) : Prop := ∃ s, s ≤ 16 ∧ σ.1 3009 = nI s ∧ τ.1 4171 = nI s ∧ ∀ i, i < s → σ.2 48 i = τ.2 72 i
def rP (P : Nat) (σ τ : jT) : Prop := ∃ k, k ≤ 20 ∧ σ.1 12 = nI k ∧ τ.1 4203 = nI k ∧ ∀ i, i < k → ∃ q, q < P ∧ σ.2 62 i = nI q ∧ τ.2 88 i = nI q
/-- what the class holds, but for what a call leaves lying about -/
def coreC (σ : jT) := ((σ.1 65, σ.2 2), (σ.1 195, σ.1 196, σ.2 4, σ.2 5), (σ.1 197, σ.2 6), σ.2 13, (σ.2 8, σ.1 452), (σ.1 898, σ.1 899, pastC σ), (σ.1 900, keptC σ), (σ.1 3009, σ.2 48), (σ.1 12, σ.2 62))
def coreM (τ : jT) := ((τ.1 4169, τ.2 71), (τ.1 4161, τ.1 4164, τ.2 67, τ.2 68), (τ.1 4165, τ.2 69, τ.2 70), τ.2 66, (τ.2 77, τ.1 4184), (τ.1 4189, τ.2 79), (τ.1 4208, τ.2 92, τ.2 93, τ.2 94), (τ.1 4171, τ.2 72), (τ.1 4203, τ.2 88))
/-- the two rules tell the same WAYS -/
def rU0 (cd : Nat → Int32) (cl : Int32) (rl : Nat → Int32) (rs : Int32) : Prop := ∀ (σ τ : jT) (a b k p s m n : Int32), σ.2 8 = cd → σ.1 452 = cl → τ.2 77 = rl → τ.1 4184 = rs → (k = 1 ∨ k = 2 ∨ k = 3) →
  σ.2 11 2 = k → σ.2 11 3 = p → σ.2 11 4 = s → σ.2 11 5 = m → σ.2 11 6 = n →
  ∃ v σ' τ', f_X7_tells a b σ = some (v, σ') ∧ f_X11_wayBy_b25 a b p s m n k (if k = 2 then a else 0) (k - a - b) τ = some (v, τ') ∧ coreC σ' = coreC σ ∧ coreM τ' = coreM τ ∧
    σ'.1 = σ.1 ∧ (∀ o, o ≠ 10 ∧ o ≠ 11 → σ'.2 o = σ.2 o) ∧ (∀ o, o ≠ 78 → τ'.2 o = τ.2 o) ∧ (∀ i, i < 4174 ∨ (4177 < i ∧ i ≠ 4185) → τ'.1 i = τ.1 i) ∧ ¬ v < 0 ∧ v < k ∧ ∀ j, 2 ≤ j → σ'.2 11 j = σ.2 11 j
def rU (σ τ : jT) : Prop := rU0 (σ.2 8) (σ.1 452) (τ.2 77) (τ.1 4184)
def rAll (n P Q : Nat) (σ τ : jT) : Prop := (n < 5000 → rT σ τ) ∧ rL P σ τ ∧ rR Q σ τ ∧ rN P Q σ τ ∧ rU σ τ ∧ rH P Q σ τ ∧ rK n P Q σ τ ∧ rW σ τ ∧ rP P σ τ
theorem rAll_core {n P Q : Nat} {σ σ' τ τ' : jT} (h : rAll n P Q σ τ) (h1 : coreC σ' = coreC σ) (h2 : coreM τ' = coreM τ) : rAll n P Q σ' τ' := by
  simp only [coreC, Prod.mk.injEq] at h1
  simp only [coreM, Prod.mk.injEq] at h2
  obtain ⟨⟨a1, a2⟩, ⟨a3, a4, a5, a6⟩, ⟨a7, a8⟩, a9, ⟨a10, a11⟩, ⟨a12, a13, a14⟩, ⟨a15, a16⟩, ⟨a17, a18⟩, ⟨a19, a20⟩⟩ := h1
  obtain ⟨⟨b1, b2⟩, ⟨b3, b4, b5, b6⟩, ⟨b7, b8, b9⟩, b10, ⟨b11, b12⟩, ⟨b13, b14⟩, ⟨b15, b16, b17, b18⟩, ⟨b19, b20⟩, ⟨b21, b22⟩⟩ := h2
  simp only [rAll, rT, rL, rR, rN, rU, rH, rK, rW, rP] at h ⊢
  simp only [a1, a2, a3, a4, a5, a6, a7, a8, a9, a10, a11, a12, a13, a14, a15, a16, a17, a18, a19, a20, b1, b2, b3, b4, b5, b6, b7, b8, b9, b10, b11, b12, b13, b14, b15, b16, b17, b18, b19, b20, b21, b22]
  exact h
theorem rAll_step {n P Q : Nat} {σ τ : jT} (h : rAll n P Q σ τ) : rAll (n + 1) P Q σ τ := by
  obtain ⟨h1, h2, h3, h4, h5, h6, ⟨c, b, hc, hk⟩, h8⟩ := h
  exact ⟨fun hn => h1 (by omega), h2, h3, h4, h5, h6, ⟨c, b, by omega, hk⟩, h8⟩
/-- a call answers alike on both sides, and they hold the same behind it -/
def rEq (n : Nat) (fc fm : Option (Int32 × jT)) : Prop := ∃ r σ' τ' P Q, fc = some (r, σ') ∧ fm = some (r, τ') ∧ τ'.1 4172 = 0 ∧ rAll (n + 1) P Q σ' τ'
