/-! ===== a ride of two begins, and goes on, on both sides ===== -/
def qC (σ σ' : jT) : Prop := (∀ i, i < 3144 ∨ 3148 < i → σ'.1 i = σ.1 i) ∧ ∀ o, o ≠ 10 → o ≠ 11 → o < 50 ∨ 54 < o → σ'.2 o = σ.2 o
def qM (τ τ' : jT) : Prop := (∀ i, i < 4174 ∨ 4177 < i → i ≠ 4185 → i ≠ 4187 → i ≠ 4191 → i ≠ 4196 → τ'.1 i = τ.1 i) ∧ ∀ o, o ≠ 82 → o ≠ 78 → τ'.2 o = τ.2 o
theorem qC_trans {a b c : jT} (h1 : qC a b) (h2 : qC b c) : qC a c := ⟨fun i h => (h2.1 i h).trans (h1.1 i h), fun o a1 a2 a3 => (h2.2 o a1 a2 a3).trans (h1.2 o a1 a2 a3)⟩
theorem qM_trans {a b c : jT} (h1 : qM a b) (h2 : qM b c) : qM a c := ⟨fun i a0 a1 a2 a3 a4 => (h2.1 i a0 a1 a2 a3 a4).trans (h1.1 i a0 a1 a2 a3 a4), fun o a1 a2 => (h2.2 o a1 a2).trans (h1.2 o a1 a2)⟩
theorem qC_refl (σ : jT) : qC σ σ := ⟨fun _ _ => rfl, fun _ _ _ _ => rfl⟩
theorem qM_refl (τ : jT) : qM τ τ := ⟨fun _ _ _ _ _ _ => rfl, fun _ _ _ => rfl⟩
theorem frC_q {σ σ' : jT} (h : frC σ σ') : qC σ σ' := ⟨fun i hi => h.1 i (by omega) (by omega) (by omega) (by omega), fun o a1 a2 a3 => h.2 o (by omega) (by omega) (by omega) a1 a2⟩
theorem frM_q {τ τ' : jT} (h : frM 82 τ τ') : qM τ τ' := ⟨fun i a0 a1 a2 a3 a4 => h.1 i a2 a0 a1, fun o a1 a2 => h.2 o a1 a2⟩
theorem qC_core {σ σ' : jT} (h : qC σ σ') : coreC σ' = coreC σ := by
  have hp : pastC σ' = pastC σ := by
    funext i
    unfold pastC
    split <;> exact h.2 _ (by decide) (by decide) (by decide)
  have hk : keptC σ' = keptC σ := by
    funext i
    unfold keptC
    split <;> exact h.2 _ (by decide) (by decide) (by decide)
  unfold coreC
  rw [hp, hk, h.1 65 (by decide), h.1 195 (by decide), h.1 196 (by decide), h.1 197 (by decide), h.1 452 (by decide), h.1 898 (by decide), h.1 899 (by decide), h.1 900 (by decide), h.1 3009 (by decide), h.1 12 (by decide),
    h.2 2 (by decide) (by decide) (by decide), h.2 4 (by decide) (by decide) (by decide), h.2 5 (by decide) (by decide) (by decide), h.2 6 (by decide) (by decide) (by decide), h.2 13 (by decide) (by decide) (by decide), h.2 8 (by decide) (by decide) (by decide), h.2 48 (by decide) (by decide) (by decide), h.2 62 (by decide) (by decide) (by decide)]
theorem qM_core {τ τ' : jT} (h : qM τ τ') : coreM τ' = coreM τ := by
  unfold coreM
  rw [h.1 4169 (by decide) (by decide) (by decide) (by decide) (by decide), h.1 4161 (by decide) (by decide) (by decide) (by decide) (by decide), h.1 4164 (by decide) (by decide) (by decide) (by decide) (by decide), h.1 4165 (by decide) (by decide) (by decide) (by decide) (by decide), h.1 4184 (by decide) (by decide) (by decide) (by decide) (by decide), h.1 4189 (by decide) (by decide) (by decide) (by decide) (by decide), h.1 4208 (by decide) (by decide) (by decide) (by decide) (by decide), h.1 4171 (by decide) (by decide) (by decide) (by decide) (by decide), h.1 4203 (by decide) (by decide) (by decide) (by decide) (by decide),
    h.2 71 (by decide) (by decide), h.2 67 (by decide) (by decide), h.2 68 (by decide) (by decide), h.2 69 (by decide) (by decide), h.2 70 (by decide) (by decide), h.2 66 (by decide) (by decide), h.2 77 (by decide) (by decide), h.2 79 (by decide) (by decide), h.2 92 (by decide) (by decide), h.2 93 (by decide) (by decide), h.2 94 (by decide) (by decide), h.2 72 (by decide) (by decide), h.2 88 (by decide) (by decide)]
theorem q_all {n P Q : Nat} {σ τ σ' τ' : jT} (h : rAll n P Q σ τ) (h1 : qC σ σ') (h2 : qM τ τ') : rAll n P Q σ' τ' := rAll_core h (qC_core h1) (qM_core h2)
theorem q_th {τ τ' : jT} (h : qM τ τ') (h0 : τ.1 4172 = 0) : τ'.1 4172 = 0 := (h.1 4172 (by decide) (by decide) (by decide) (by decide) (by decide)).trans h0
/-- what a ride needs of both sides -/
def rG (P Q : Nat) (σ τ : jT) : Prop := rL P σ τ ∧ rR Q σ τ ∧ rN P Q σ τ ∧ rU σ τ
def coreGC (σ : jT) := (σ.1 195, σ.1 196, σ.2 4, σ.2 5, σ.1 197, σ.2 6, σ.2 13, σ.2 8, σ.1 452)
def coreGM (τ : jT) := (τ.1 4161, τ.1 4164, τ.2 67, τ.2 68, τ.1 4165, τ.2 69, τ.2 70, τ.2 66, τ.2 77, τ.1 4184)
theorem rG_core {P Q : Nat} {σ τ σ' τ' : jT} (h : rG P Q σ τ) (h1 : coreGC σ' = coreGC σ) (h2 : coreGM τ' = coreGM τ) : rG P Q σ' τ' := by
  simp only [coreGC, Prod.mk.injEq] at h1
  simp only [coreGM, Prod.mk.injEq] at h2
  obtain ⟨a3, a4, a5, a6, a7, a8, a9, a10, a11⟩ := h1
  obtain ⟨b3, b4, b5, b6, b7, b8, b9, b10, b11, b12⟩ := h2
  simp only [rG, rL, rR, rN, rU] at h ⊢
  simp only [a3, a4, a5, a6, a7, a8, a9, a10, a11, b3, b4, b5, b6, b7, b8, b9, b10, b11, b12]
  exact h
theorem rG_of {n P Q : Nat} {σ τ : jT} (h : rAll n P Q σ τ) : rG P Q σ τ := by
  obtain ⟨-, h2, h3, h4, h5, -⟩ := h
  exact ⟨h2, h3, h4, h5⟩
theorem qC_g {σ σ' : jT} (h : qC σ σ') : coreGC σ' = coreGC σ := by
  unfold coreGC
  rw [h.1 195 (by decide), h.1 196 (by decide), h.1 197 (by decide), h.1 452 (by decide), h.2 4 (by decide) (by decide) (by decide), h.2 5 (by decide) (by decide) (by decide), h.2 6 (by decide) (by decide) (by decide), h.2 13 (by decide) (by decide) (by decide), h.2 8 (by decide) (by decide) (by decide)]
theorem qM_g {τ τ' : jT} (h : qM τ τ') : coreGM τ' = coreGM τ := by
  unfold coreGM
  rw [h.1 4161 (by decide) (by decide) (by decide) (by decide) (by decide), h.1 4164 (by decide) (by decide) (by decide) (by decide) (by decide), h.1 4165 (by decide) (by decide) (by decide) (by decide) (by decide), h.1 4184 (by decide) (by decide) (by decide) (by decide) (by decide),
    h.2 67 (by decide) (by decide), h.2 68 (by decide) (by decide), h.2 69 (by decide) (by decide), h.2 70 (by decide) (by decide), h.2 66 (by decide) (by decide), h.2 77 (by decide) (by decide)]
theorem q_G {P Q : Nat} {σ τ σ' τ' : jT} (h : rG P Q σ τ) (h1 : qC σ σ') (h2 : qM τ τ') : rG P Q σ' τ' := rG_core h (qC_g h1) (qM_g h2)
def cFresh (σ : jT) (f g : Nat) (p : Int32) : jT := gs (gs (gs (gs (gs (gA (gA (gA (gA (gA (gA (gA (gA (gA (gA σ 50 0 (nI f)) 50 1 (nI g)) 51 0 (σ.2 6 f)) 52 0 (-1)) 53 0 (σ.2 13 (18 + f))) 54 0 (σ.2 13 (18 + f))) 51 1 (σ.2 6 g)) 52 1 (-1)) 53 1 (σ.2 13 (18 + g))) 54 1 (σ.2 13 (18 + g))) 3144 p) 3145 0) 3146 0) 3147 (-1)) 3148 0
theorem c_fresh {σ : jT} {Q f g : Nat} {p : Int32} (h : σ.1 197 = nI Q) (hQ : Q ≤ 6) (hf : f < Q) (hg : g < Q) : f_X5_beginFresh (nI f) (nI g) p σ = some (0, cFresh σ f g p) := by
  unfold f_X5_beginFresh
  rw [show (1000 : Nat) = 997 + 1 + 1 + 1 from rfl, f_X5_beginFresh_b17, if_neg (by decide), if_pos (by decide), show (0 : Int32).toNatClampNeg = 0 from rfl]
  have r0 : (gA (gA σ 50 0 (nI f)) 50 1 (nI g)).2 50 0 = nI f := rfl
  rw [r0, c_mind_t (σ := gA (gA σ 50 0 (nI f)) 50 1 (nI g)) h hQ hf]
  simp only [Option.bind_some]
  rw [r0, c_mapOf (by omega)]
  simp only [Option.bind_some]
  rw [f_X5_beginFresh_b17, show (0 : Int32) + 1 = 1 from rfl, if_neg (by decide), if_pos (by decide), show (1 : Int32).toNatClampNeg = 1 from rfl]
  have r1 : ∀ (a b c d : Int32), (gA (gA (gA (gA (gA (gA σ 50 0 (nI f)) 50 1 (nI g)) 51 0 a) 52 0 b) 53 0 c) 54 0 d).2 50 1 = nI g := fun _ _ _ _ => rfl
  rw [r1, c_mind_t (by exact h) hQ hg]
  simp only [Option.bind_some]
  rw [r1, c_mapOf (by omega)]
  simp only [Option.bind_some]
  rw [f_X5_beginFresh_b17, if_pos (by decide)]
  rfl
def cBegin (σ : jT) (f g a b : Nat) (p : Int32) : jT := gA (gA (gA (gA (gA (gA (cFresh σ f g p) 51 0 (σ.2 6 f - σ.2 13 f)) 52 0 (σ.2 13 (12 + f))) 54 0 (σ.2 13 (18 + a))) 51 1 (σ.2 6 g - σ.2 13 g)) 52 1 (σ.2 13 (12 + g))) 54 1 (σ.2 13 (18 + b))
theorem c_begin {σ : jT} {Q f g a b : Nat} {p : Int32} (h : σ.1 197 = nI Q) (hQ : Q ≤ 6) (hf : f < Q) (hg : g < Q) (ha : a < 6) (hb : b < 6) (ga : (σ.2 13 (12 + f) = -1 ∧ a = f) ∨ σ.2 13 (12 + f) = nI a) (gb : (σ.2 13 (12 + g) = -1 ∧ b = g) ∨ σ.2 13 (12 + g) = nI b) : f_X5_begin (nI f) (nI g) p σ = some (0, cBegin σ f g a b p) := by
  unfold f_X5_begin
  rw [c_fresh h hQ hf hg]
  simp only [Option.bind_some]
  rw [show (1000 : Nat) = 997 + 1 + 1 + 1 from rfl, f_X5_begin_b10, if_neg (by decide), if_pos (by decide), show (0 : Int32).toNatClampNeg = 0 from rfl]
  have r0 : (cFresh σ f g p).2 50 0 = nI f := rfl
  rw [r0, c_mind_t (σ := cFresh σ f g p) h hQ hf]
  simp only [Option.bind_some]
  rw [r0, c_spentOf (by omega)]
  simp only [Option.bind_some]
  rw [r0, c_convOf (by omega)]
  simp only [Option.bind_some]
  have r0' : ∀ x y : Int32, (gA (gA (cFresh σ f g p) 51 0 x) 52 0 y).2 50 0 = nI f := fun _ _ => rfl
  have r0'' : ∀ x : Int32, (gA (cFresh σ f g p) 51 0 x).2 50 0 = nI f := fun _ => rfl
  rw [r0'', c_guide (by omega) ha (by exact ga)]
  simp only [Option.bind_some]
  rw [f_X5_begin_b10, show (0 : Int32) + 1 = 1 from rfl, if_neg (by decide), if_pos (by decide), show (1 : Int32).toNatClampNeg = 1 from rfl]
  have r1 : ∀ x y z : Int32, (gA (gA (gA (cFresh σ f g p) 51 0 x) 52 0 y) 54 0 z).2 50 1 = nI g := fun _ _ _ => rfl
  have r1' : ∀ x y z w : Int32, (gA (gA (gA (gA (cFresh σ f g p) 51 0 x) 52 0 y) 54 0 z) 51 1 w).2 50 1 = nI g := fun _ _ _ _ => rfl
  rw [r1, c_mind_t (by exact h) hQ hg]
  simp only [Option.bind_some]
  rw [r1, c_spentOf (by omega)]
  simp only [Option.bind_some]
  rw [r1, c_convOf (by omega)]
  simp only [Option.bind_some]
  rw [r1', c_guide (by omega) hb (by exact gb)]
  simp only [Option.bind_some]
  rw [f_X5_begin_b10, if_pos (by decide)]
  rfl
theorem cFresh_q (σ : jT) (f g : Nat) (p : Int32) : qC σ (cFresh σ f g p) := by
  constructor
  · intro i hi
    show (if i = 3148 then _ else if i = 3147 then _ else if i = 3146 then _ else if i = 3145 then _ else if i = 3144 then _ else σ.1 i) = _
    rw [if_neg (by omega), if_neg (by omega), if_neg (by omega), if_neg (by omega), if_neg (by omega)]
  · intro o h1 h2 h3
    funext z
    show (if o = 54 ∧ z = 1 then _ else if o = 53 ∧ z = 1 then _ else if o = 52 ∧ z = 1 then _ else if o = 51 ∧ z = 1 then _ else if o = 54 ∧ z = 0 then _ else if o = 53 ∧ z = 0 then _ else if o = 52 ∧ z = 0 then _ else if o = 51 ∧ z = 0 then _ else if o = 50 ∧ z = 1 then _ else if o = 50 ∧ z = 0 then _ else σ.2 o z) = _
    rw [if_neg (by omega), if_neg (by omega), if_neg (by omega), if_neg (by omega), if_neg (by omega), if_neg (by omega), if_neg (by omega), if_neg (by omega), if_neg (by omega), if_neg (by omega)]
theorem cBegin_q (σ : jT) (f g a b : Nat) (p s : Int32) : qC σ (gs (cBegin σ f g a b p) 3145 s) := by
  refine qC_trans (cFresh_q σ f g p) ⟨?_, ?_⟩
  · intro i hi
    show (if i = 3145 then _ else (cFresh σ f g p).1 i) = _
    rw [if_neg (by omega)]
  · intro o h1 h2 h3
    funext z
    show (if o = 54 ∧ z = 1 then _ else if o = 52 ∧ z = 1 then _ else if o = 51 ∧ z = 1 then _ else if o = 54 ∧ z = 0 then _ else if o = 52 ∧ z = 0 then _ else if o = 51 ∧ z = 0 then _ else (cFresh σ f g p).2 o z) = _
    rw [if_neg (by omega), if_neg (by omega), if_neg (by omega), if_neg (by omega), if_neg (by omega), if_neg (by omega)]
theorem ja_sub {m s : Nat} (h : s ≤ m) : nI m - nI s = nI (m - s) := by
  have : nI m = nI (m - s) + nI s := by rw [ja_add]; congr 1; omega
  rw [this, Int32.add_sub_cancel]
/-- what the class began is what the model's row A holds -/
theorem bg_D {P Q f g a b A p : Nat} {s : Int32} {σ τ τ' : jT} (h : rG P Q σ τ) (hf : f < Q) (hg : g < Q) (hfg : f ≠ g) (hp : rPl P p) (ha : a < Q) (hb : b < Q) (ga : (σ.2 13 (12 + f) = -1 ∧ a = f) ∨ σ.2 13 (12 + f) = nI a) (gb : (σ.2 13 (12 + g) = -1 ∧ b = g) ∨ σ.2 13 (12 + g) = nI b)
    (t69 : τ'.2 69 = τ.2 69) (t70 : τ'.2 70 = τ.2 70) (tz : ∀ z, 4 ≤ z → z < 28 → τ'.2 A z = τ.2 66 z) (t0 : τ'.2 A 0 = nI p) (t1 : τ'.2 A 1 = nI f) (t2 : τ'.2 A 2 = nI g) (t3 : τ'.2 A 3 = s) : rD P Q A f g (gs (cBegin σ f g a b (nI p)) 3145 s) τ' := by
  obtain ⟨-, ⟨hQ, q1, q2, q3⟩, ⟨hS, hcap⟩, -⟩ := id h
  have key : ∀ (i r c : Nat) (w l y mp ow : Int32), r < Q → c < Q → ((σ.2 13 (12 + r) = -1 ∧ c = r) ∨ σ.2 13 (12 + r) = nI c) →
      (gs (cBegin σ f g a b (nI p)) 3145 s).2 51 i = σ.2 6 r - σ.2 13 r → (gs (cBegin σ f g a b (nI p)) 3145 s).2 52 i = σ.2 13 (12 + r) → (gs (cBegin σ f g a b (nI p)) 3145 s).2 53 i = σ.2 13 (18 + r) → (gs (cBegin σ f g a b (nI p)) 3145 s).2 54 i = σ.2 13 (18 + c) → rDi P Q A (gs (cBegin σ f g a b (nI p)) 3145 s) τ' i r := by
    intro i r c w l y mp ow hr hc gc e1 e2 e3 e4
    obtain ⟨⟨v, hv, v1, v2⟩, -, ⟨b1, b2⟩, ⟨j, M, hj, hM, j1, M1, dg⟩⟩ := hS.2.2.2.2.2 r hr
    obtain ⟨m, hm1, hm, m1, m2⟩ := q3 r hr
    have hvm : v ≤ m := by
      have := hcap r hr
      rw [v1, m1] at this
      exact (ja_le (by omega) (by omega)).mp this
    refine ⟨⟨m, v, hvm, hm1, hm, m1, by rw [t69]; exact m2, by rw [tz _ (by omega) (by omega)]; exact v2, ?_⟩, ?_, ⟨j, M, hj, hM, by rw [tz _ (by omega) (by omega)]; exact j1, e3.trans M1, fun p hp => by rw [t70]; exact (dg p hp).1⟩, ?_⟩
    · rw [e1, m1, v1, ja_sub hvm]
    · rw [e2, tz _ (by omega) (by omega)]; exact b1
    · obtain ⟨-, -, -, ⟨j', M', hj', hM', j1', M1', dg'⟩⟩ := hS.2.2.2.2.2 c hc
      refine ⟨c, j', M', hc, hj', hM', ?_, by rw [tz _ (by omega) (by omega)]; exact j1', e4.trans M1', fun p hp => by rw [t70]; exact (dg' p hp).1⟩
      rw [tz _ (by omega) (by omega), ← b1]; exact gc
  refine ⟨hf, hg, hfg, rfl, rfl, t1, t2, ⟨p, hp, rfl, t0⟩, ?_, key 0 f a 0 0 0 0 0 hf ha ga rfl rfl rfl rfl, key 1 g b 0 0 0 0 0 hg hb gb rfl rfl rfl rfl⟩
  rw [t3]
  show s = s + 0
  rw [Int32.add_zero]
def atStart (σ : jT) : Prop := σ.1 3146 = nI 0 ∧ σ.1 3147 = -1 ∧ σ.1 3148 = 0
theorem gd_ex {P Q : Nat} {σ τ : jT} (h : rG P Q σ τ) {r : Nat} (hr : r < Q) : ∃ a, a < Q ∧ ((σ.2 13 (12 + r) = -1 ∧ a = r) ∨ σ.2 13 (12 + r) = nI a) := by
  obtain ⟨-, ⟨hQ, -⟩, ⟨hS, -⟩, -⟩ := id h
  obtain ⟨-, -, ⟨-, b2⟩, -⟩ := hS.2.2.2.2.2 r hr
  rcases b2 with b2 | ⟨b, hb, b2⟩
  · exact ⟨r, hr, Or.inl ⟨b2, rfl⟩⟩
  · exact ⟨b, hb, Or.inr b2⟩
theorem gs_same {σ : jT} {i : Nat} {v : Int32} (h : σ.1 i = v) : gs σ i v = σ := by
  unfold gs jx_up
  rw [← h]
  have : (fun j => if j = i then σ.1 i else σ.1 j) = σ.1 := by
    funext j
    split
    · next e => rw [e]
    · rfl
  rw [this]
theorem ly_q (τ : jT) : qM τ (lyT τ 66 82 0 28) := ⟨fun _ _ _ _ _ _ => rfl, fun o h1 h2 => by
  funext z
  show (if o = 82 ∧ _ then _ else τ.2 o z) = _
  rw [if_neg (fun q => h1 q.1)]⟩
theorem ly_z (τ : jT) {z : Nat} (hz : z < 28) : (lyT τ 66 82 0 28).2 82 z = τ.2 66 z := by
  show (if 82 = 82 ∧ 0 ≤ z ∧ z < 0 + 28 then τ.2 66 (z - 0) else _) = _
  rw [if_pos (by omega)]; rfl
def mMnt (τ : jT) (f g p : Int32) : jT := gA (gA (gA (gA (lyT τ 66 82 0 28) 82 0 p) 82 1 f) 82 2 g) 82 3 0
theorem mMnt_q (τ : jT) (f g p : Int32) : qM τ (mMnt τ f g p) := by
  refine qM_trans (ly_q τ) ⟨fun _ _ _ _ _ _ => rfl, fun o h1 h2 => ?_⟩
  funext z
  show (if o = 82 ∧ _ then _ else if o = 82 ∧ _ then _ else if o = 82 ∧ _ then _ else if o = 82 ∧ _ then _ else _) = _
  rw [if_neg (fun q => h1 q.1), if_neg (fun q => h1 q.1), if_neg (fun q => h1 q.1), if_neg (fun q => h1 q.1)]
theorem mMnt_z (τ : jT) (f g p : Int32) {z : Nat} (h4 : 4 ≤ z) (hz : z < 28) : (mMnt τ f g p).2 82 z = τ.2 66 z := by
  show (if 82 = 82 ∧ z = 3 then _ else if 82 = 82 ∧ z = 2 then _ else if 82 = 82 ∧ z = 1 then _ else if 82 = 82 ∧ z = 0 then _ else (lyT τ 66 82 0 28).2 82 z) = _
  rw [if_neg (by omega), if_neg (by omega), if_neg (by omega), if_neg (by omega), ly_z τ hz]
/-- a ride of two tried from a PLACE -/
theorem bg_82 {P Q f g p : Nat} {σ τ : jT} (h : rG P Q σ τ) (hf : f < Q) (hg : g < Q) (hfg : f ≠ g) (hp : rPl P p) : ∃ σ' τ', f_X5_begin (nI f) (nI g) (nI p) σ = some (0, σ') ∧ f_X11_mountThen (nI f) (nI g) (nI p) 0 τ = some (0, τ') ∧ qC σ σ' ∧ qM τ τ' ∧ rD P Q 82 f g σ' τ' ∧ atStart σ' ∧ σ'.1 3144 = nI p := by
  obtain ⟨-, ⟨hQ, q1, -⟩, -⟩ := id h
  obtain ⟨a, ha, ga⟩ := gd_ex h hf
  obtain ⟨b, hb, gb⟩ := gd_ex h hg
  have hq := cBegin_q σ f g a b (nI p) 0
  have hD := bg_D (s := 0) (A := 82) (τ' := mMnt τ (nI f) (nI g) (nI p)) h hf hg hfg hp ha hb ga gb ((mMnt_q τ _ _ _).2 69 (by decide) (by decide)) ((mMnt_q τ _ _ _).2 70 (by decide) (by decide)) (fun z h4 hz => mMnt_z τ _ _ _ h4 hz) rfl rfl rfl rfl
  rw [gs_same (show (cBegin σ f g a b (nI p)).1 3145 = 0 from rfl)] at hq hD
  refine ⟨_, mMnt τ (nI f) (nI g) (nI p), c_begin q1 hQ hf hg (by omega) (by omega) ga gb, ?_, hq, mMnt_q τ _ _ _, hD, ⟨rfl, rfl, rfl⟩, rfl⟩
  unfold f_X11_mountThen
  rw [show (0 : Int32) = nI 0 from rfl, m_lay_66_82 τ (by omega)]
  rfl
/-- the true ride, tried -/
theorem rs_D {P Q : Nat} {σ τ : jT} (h : rG P Q σ τ) (hm : ∃ f g, f < Q ∧ g < Q ∧ f ≠ g ∧ σ.2 13 25 = nI f ∧ σ.2 13 26 = nI g ∧ σ.2 13 (6 + f) = σ.2 13 24 ∧ σ.2 13 (6 + g) = σ.2 13 24) : ∃ σ' f g p, f_X5_resume σ = some (0, σ') ∧ qC σ σ' ∧ rD P Q 82 f g σ' (lyT τ 66 82 0 28) ∧ rD P Q 66 f g σ' τ ∧ atStart σ' ∧ σ'.1 3144 = σ.2 13 24 ∧ rPl P p ∧ σ.2 13 24 = nI p ∧ τ.2 66 0 = nI p ∧ f < Q ∧ g < Q ∧ f ≠ g ∧ σ.2 13 25 = nI f ∧ σ.2 13 26 = nI g ∧ τ.2 66 (10 + f) = nI p ∧ τ.2 66 (10 + g) = nI p := by
  obtain ⟨f, g, hf, hg, hfg, e25, e26, ef, eg⟩ := hm
  obtain ⟨-, ⟨hQ, q1, -⟩, ⟨hS, -⟩, -⟩ := id h
  obtain ⟨⟨p, hp, n1, n2⟩, n3, n4, n5, -, hr⟩ := id hS
  obtain ⟨a, ha, ga⟩ := gd_ex h hf
  obtain ⟨b, hb, gb⟩ := gd_ex h hg
  obtain ⟨-, ⟨u, -, u1, u2⟩, -⟩ := hr f hf
  obtain ⟨-, ⟨v, -, v1, v2⟩, -⟩ := hr g hg
  refine ⟨gs (cBegin σ f g a b (nI p)) 3145 (σ.2 13 27), f, g, p, ?_, cBegin_q _ _ _ _ _ _ _, ?_, ?_, ⟨rfl, rfl, rfl⟩, ?_, hp, n1, n2, hf, hg, hfg, e25, e26, ?_, ?_⟩
  · unfold f_X5_resume f_X8_first f_X8_second f_X8_horse f_X8_steps
    simp only [Option.bind_some]
    rw [e25, e26, n1, c_begin q1 hQ hf hg (by omega) (by omega) ga gb]
    rfl
  · exact bg_D h hf hg hfg hp ha hb ga gb ((ly_q τ).2 69 (by decide) (by decide)) ((ly_q τ).2 70 (by decide) (by decide)) (fun z h4 hz => ly_z τ hz) ((ly_z τ (by omega)).trans n2) ((ly_z τ (by omega)).trans (n3.symm.trans e25)) ((ly_z τ (by omega)).trans (n4.symm.trans e26)) ((ly_z τ (by omega)).trans n5.symm)
  · exact bg_D h hf hg hfg hp ha hb ga gb rfl rfl (fun z h4 hz => rfl) n2 (n3.symm.trans e25) (n4.symm.trans e26) n5.symm
  · show nI p = _
    rw [n1]
  · rw [u2, ← u1, ef, n1]
  · rw [v2, ← v1, eg, n1]
/-- all that the model freshens -/
theorem m_freshen {Q : Nat} {τ : jT} (hQ : Q ≤ 6) (h : τ.1 4165 = nI Q) : ∃ τ', f_X11_freshen τ = some (0, τ') ∧ τ'.1 = τ.1 ∧ (∀ o, o ≠ 82 → τ'.2 o = τ.2 o) ∧ (∀ r, r < Q → τ'.2 82 (4 + r) = nI 0 ∧ τ'.2 82 (16 + r) = -1) ∧ ∀ z, z < 4 ∨ 21 < z → τ'.2 82 z = τ.2 82 z := by
  have key : ∀ (m k fu : Nat) (τ1 : jT), k + m = Q → m < fu → τ1.1 = τ.1 → (∀ o, o ≠ 82 → τ1.2 o = τ.2 o) → (∀ r, r < k → τ1.2 82 (4 + r) = nI 0 ∧ τ1.2 82 (16 + r) = -1) → (∀ z, z < 4 ∨ 21 < z → τ1.2 82 z = τ.2 82 z) →
      ∃ τ', f_X11_freshen_b2 fu (nI k) τ1 = some (0, τ') ∧ τ'.1 = τ.1 ∧ (∀ o, o ≠ 82 → τ'.2 o = τ.2 o) ∧ (∀ r, r < Q → τ'.2 82 (4 + r) = nI 0 ∧ τ'.2 82 (16 + r) = -1) ∧ ∀ z, z < 4 ∨ 21 < z → τ'.2 82 z = τ.2 82 z := by
    intro m
    induction m with
    | zero =>
      intro k fu τ1 hk hfu e1 e2 e3 e4
      obtain ⟨fu, rfl⟩ : ∃ f', fu = f' + 1 := ⟨fu - 1, by omega⟩
      rw [f_X11_freshen_b2, e1, h, if_pos ((ja_le (by omega) (by omega)).mpr (by omega))]
      exact ⟨τ1, rfl, e1, e2, fun r hr => e3 r (by omega), e4⟩
    | succ m ih =>
      intro k fu τ1 hk hfu e1 e2 e3 e4
      obtain ⟨fu, rfl⟩ : ∃ f', fu = f' + 1 := ⟨fu - 1, by omega⟩
      have a4 : (4 : Int32) + nI k = nI (4 + k) := ja_add 4 k
      have a16 : (16 : Int32) + nI k = nI (16 + k) := ja_add 16 k
      rw [f_X11_freshen_b2, e1, h, if_neg (fun q => by rw [ja_le (by omega) (by omega)] at q; omega), a4, a16, if_pos (ja_in (by omega) (by omega)), if_pos (ja_in (by omega) (by omega)), nI_clamp (by omega), nI_clamp (by omega), ← nI_succ]
      refine ih (k + 1) fu _ (by omega) (by omega) e1 (fun o ho => ?_) (fun r hr => ?_) (fun z hz => ?_)
      · rw [← e2 o ho]
        funext z
        show (if o = 82 ∧ _ then _ else if o = 82 ∧ _ then _ else _) = _
        rw [if_neg (fun q => ho q.1), if_neg (fun q => ho q.1)]
      · constructor
        · show (if 82 = 82 ∧ 4 + r = 16 + k then _ else if 82 = 82 ∧ 4 + r = 4 + k then _ else τ1.2 82 (4 + r)) = _
          rw [if_neg (by omega)]
          by_cases hrk : r = k
          · rw [if_pos (by omega)]; rfl
          · rw [if_neg (by omega)]; exact (e3 r (by omega)).1
        · show (if 82 = 82 ∧ 16 + r = 16 + k then _ else if 82 = 82 ∧ 16 + r = 4 + k then _ else τ1.2 82 (16 + r)) = _
          by_cases hrk : r = k
          · rw [if_pos (by omega)]
          · rw [if_neg (by omega), if_neg (by omega)]; exact (e3 r (by omega)).2
      · rw [← e4 z hz]
        show (if 82 = 82 ∧ z = 16 + k then _ else if 82 = 82 ∧ z = 4 + k then _ else τ1.2 82 z) = _
        rw [if_neg (by omega), if_neg (by omega)]
  exact key Q 0 1000 τ (by omega) (by omega) rfl (fun _ _ => rfl) (fun r hr => by omega) (fun _ _ => rfl)
/-- a ride of two tried from a PLACE, both fresh -/
theorem bf_82 {P Q f g p : Nat} {σ τ : jT} (h : rG P Q σ τ) (hf : f < Q) (hg : g < Q) (hfg : f ≠ g) (hp : rPl P p) : ∃ σ' τ', f_X5_beginFresh (nI f) (nI g) (nI p) σ = some (0, σ') ∧ f_X11_mountThen (nI f) (nI g) (nI p) 1 τ = some (0, τ') ∧ qC σ σ' ∧ qM τ τ' ∧ rD P Q 82 f g σ' τ' ∧ atStart σ' ∧ σ'.1 3144 = nI p := by
  obtain ⟨-, ⟨hQ, q1, q2, q3⟩, ⟨hS, -⟩, -⟩ := id h
  obtain ⟨τ', e1, e2, e3, e4, e5⟩ := m_freshen (τ := mMnt τ (nI f) (nI g) (nI p)) hQ (by exact q2)
  have hq2 : qM τ τ' := qM_trans (mMnt_q τ (nI f) (nI g) (nI p)) ⟨fun i _ _ _ _ _ => by rw [e2], fun o h1 h2 => e3 o h1⟩
  refine ⟨cFresh σ f g (nI p), τ', c_fresh q1 hQ hf hg, ?_, cFresh_q σ f g _, hq2, ?_, ⟨rfl, rfl, rfl⟩, rfl⟩
  · unfold f_X11_mountThen
    rw [show (0 : Int32) = nI 0 from rfl, m_lay_66_82 τ (by omega)]
    simp only [Option.bind_some]
    rw [if_neg (by decide)]
    show (f_X11_freshen (mMnt τ (nI f) (nI g) (nI p))).bind _ = _
    rw [e1]; rfl
  · have key : ∀ i r, r < Q → (cFresh σ f g (nI p)).2 51 i = σ.2 6 r → (cFresh σ f g (nI p)).2 52 i = -1 → (cFresh σ f g (nI p)).2 53 i = σ.2 13 (18 + r) → (cFresh σ f g (nI p)).2 54 i = σ.2 13 (18 + r) → rDi P Q 82 (cFresh σ f g (nI p)) τ' i r := by
      intro i r hr a1 a2 a3 a4
      obtain ⟨-, -, -, ⟨j, M, hj, hM, j1, M1, dg⟩⟩ := hS.2.2.2.2.2 r hr
      obtain ⟨m, hm1, hm, m1, m2⟩ := q3 r hr
      have hj2 : τ'.2 82 (22 + r) = nI j := by rw [e5 _ (by omega), mMnt_z _ _ _ _ (by omega) (by omega)]; exact j1
      have h69 : τ'.2 69 = τ.2 69 := hq2.2 69 (by decide) (by decide)
      have h70 : τ'.2 70 = τ.2 70 := hq2.2 70 (by decide) (by decide)
      have hdg : dgt P τ' j M := fun p hp => by rw [h70]; exact (dg p hp).1
      refine ⟨⟨m, 0, by omega, hm1, hm, m1, by rw [h69]; exact m2, (e4 r hr).1, by rw [a1, m1, Nat.sub_zero]⟩, by rw [a2, (e4 r hr).2], ⟨j, M, hj, hM, hj2, a3.trans M1, hdg⟩, ⟨r, j, M, hr, hj, hM, Or.inl ⟨(e4 r hr).2, rfl⟩, hj2, a4.trans M1, hdg⟩⟩
    refine ⟨hf, hg, hfg, rfl, rfl, ?_, ?_, ⟨p, hp, rfl, ?_⟩, ?_, key 0 f hf rfl rfl rfl rfl, key 1 g hg rfl rfl rfl rfl⟩
    · rw [e5 1 (by omega)]; rfl
    · rw [e5 2 (by omega)]; rfl
    · rw [e5 0 (by omega)]; rfl
    · rw [e5 3 (by omega)]; rfl
/-- what a ride leaves as it was on the model's side -/
def frN (A : Nat) (τ τ' : jT) : Prop := (∀ i, i < 4174 ∨ 4177 < i → i ≠ 4185 → i ≠ 4187 → i ≠ 4191 → τ'.1 i = τ.1 i) ∧ ∀ o, o ≠ A → o ≠ 78 → τ'.2 o = τ.2 o
theorem frN_trans {A : Nat} {a b c : jT} (h1 : frN A a b) (h2 : frN A b c) : frN A a c := ⟨fun i a1 a2 a3 a4 => (h2.1 i a1 a2 a3 a4).trans (h1.1 i a1 a2 a3 a4), fun o a1 a2 => (h2.2 o a1 a2).trans (h1.2 o a1 a2)⟩
theorem frN_M {A : Nat} {a b : jT} (h : frM A a b) : frN A a b := ⟨fun i a1 a2 a3 _ => h.1 i a3 a1 a2, h.2⟩
theorem frN_q {a b : jT} (h : frN 82 a b) : qM a b := ⟨fun i a1 a2 a3 a4 _ => h.1 i a1 a2 a3 a4, h.2⟩
theorem rowF_trans {f g : Nat} {a b c : Nat → Int32} (h1 : rowF f g a b) (h2 : rowF f g b c) : rowF f g a c := fun z a0 a1 a2 a3 a4 a5 a6 a7 => (h2 z a0 a1 a2 a3 a4 a5 a6 a7).trans (h1 z a0 a1 a2 a3 a4 a5 a6 a7)
theorem rDi_1 {P Q A i r : Nat} {σ τ σ' τ' : jT} (h : rDi P Q A σ τ i r) (h1 : σ'.2 = σ.2) (h2 : τ'.2 = τ.2) : rDi P Q A σ' τ' i r := by
  unfold rDi dgt at h ⊢
  rw [h1, h2]; exact h
theorem rD_1 {P Q A f g : Nat} {σ τ σ' τ' : jT} (h : rD P Q A f g σ τ) (h1 : σ'.2 = σ.2) (h2 : τ'.2 = τ.2) (h3 : σ'.1 3144 = σ.1 3144) (h4 : σ'.1 3145 = σ.1 3145) (h5 : σ'.1 3146 = σ.1 3146) : rD P Q A f g σ' τ' := by
  obtain ⟨a1, a2, a3, a4, a5, a6, a7, a8, a9, d0, d1⟩ := h
  refine ⟨a1, a2, a3, ?_, ?_, ?_, ?_, ?_, ?_, rDi_1 d0 h1 h2, rDi_1 d1 h1 h2⟩
  · rw [h1]; exact a4
  · rw [h1]; exact a5
  · rw [h2]; exact a6
  · rw [h2]; exact a7
  · rw [h2, h3]; exact a8
  · rw [h2, h4, h5]; exact a9
theorem frN_L {P A : Nat} {σ τ σ' τ' : jT} (hA : A = 82 ∨ A = 66) (h : rL P σ τ) (h1 : frC σ σ') (h2 : frN A τ τ') : rL P σ' τ' :=
  rL_congr h (h1.1 _ (by omega) (by omega) (by omega) (by omega)) (h1.1 _ (by omega) (by omega) (by omega) (by omega)) (h1.2 _ (by omega) (by omega) (by omega) (by omega) (by omega)) (h1.2 _ (by omega) (by omega) (by omega) (by omega) (by omega)) (h2.1 _ (by omega) (by omega) (by omega) (by omega)) (h2.1 _ (by omega) (by omega) (by omega) (by omega)) (h2.2 _ (by omega) (by omega)) (h2.2 _ (by omega) (by omega))
theorem frN_U {A : Nat} {σ τ σ' τ' : jT} (hA : A = 82 ∨ A = 66) (h : rU σ τ) (h1 : frC σ σ') (h2 : frN A τ τ') : rU σ' τ' :=
  rU_congr h (h1.2 _ (by omega) (by omega) (by omega) (by omega) (by omega)) (h1.1 _ (by omega) (by omega) (by omega) (by omega)) (h2.2 _ (by omega) (by omega)) (h2.1 _ (by omega) (by omega) (by omega) (by omega))
/-- a ride of at most N STEPS: on both sides as many, to the same end -/
theorem go_82 {P Q f g N : Nat} (hQ : Q ≤ 6) (hN : N ≤ 900) : ∀ (m k fu : Nat) (σ τ : jT), k + m = N → m < fu → rL P σ τ → rU σ τ → rD P Q 82 f g σ τ → σ.1 3146 = nI k → σ.1 3148 = 0 → τ.1 4191 = σ.1 3147 →
    ∃ k' σ' τ', f_X5_go_b2 fu (nI N) (nI k) σ = some (0, σ') ∧ f_X11_goRide_82_b7 fu (nI N) (nI k) τ = some (nI k', τ') ∧ k ≤ k' ∧ k' ≤ N ∧ frC σ σ' ∧ frN 82 τ τ' ∧ rD P Q 82 f g σ' τ' ∧ σ'.1 3146 = nI k' ∧ τ'.1 4191 = σ'.1 3147 ∧ rowF f g (τ.2 82) (τ'.2 82) ∧
      (τ.2 82 (10 + f) = τ.2 82 0 → τ.2 82 (10 + g) = τ.2 82 0 → τ'.2 82 (10 + f) = τ'.2 82 0 ∧ τ'.2 82 (10 + g) = τ'.2 82 0) ∧
      ((σ'.1 3148 = 0 ∧ k' = N) ∨ (σ'.1 3148 = 1 ∧ k' < N ∧ f_X11_goesOn_82 τ' = some (0, τ'))) ∧ (k = k' → σ'.2 = σ.2) := by
  intro m
  induction m with
  | zero =>
    intro k fu σ τ hk hfu hL hU hD c1 c2 c3
    obtain ⟨fu, rfl⟩ : ∃ f', fu = f' + 1 := ⟨fu - 1, by omega⟩
    rw [f_X5_go_b2, f_X11_goRide_82_b7, if_pos ((ja_le (by omega) (by omega)).mpr (by omega)), if_pos ((ja_le (by omega) (by omega)).mpr (by omega))]
    exact ⟨k, σ, τ, rfl, rfl, Nat.le_refl _, by omega, frC_refl σ, frN_M (frM_refl 82 τ), hD, c1, c3, fun _ _ _ _ _ _ _ _ _ => rfl, fun a b => ⟨a, b⟩, Or.inl ⟨c2, by omega⟩, fun _ => rfl⟩
  | succ m ih =>
    intro k fu σ τ hk hfu hL hU hD c1 c2 c3
    obtain ⟨fu, rfl⟩ : ∃ f', fu = f' + 1 := ⟨fu - 1, by omega⟩
    have hlt : ¬ nI N ≤ nI k := fun q => by rw [ja_le (by omega) (by omega)] at q; omega
    rw [f_X5_go_b2, f_X11_goRide_82_b7, if_neg hlt, if_neg hlt]
    rcases step_82 hQ hL hU hD with ⟨e1, e2, e3⟩ | ⟨σ1, τ1, e1, e2, -, hst⟩
    · rw [e1, e2]
      simp only [Option.bind_some]
      rw [if_pos trivial]
      refine ⟨k, gs σ 3148 1, τ, rfl, rfl, Nat.le_refl _, by omega, ⟨fun i _ _ _ h4 => if_neg h4, fun _ _ _ _ _ _ => rfl⟩, frN_M (frM_refl 82 τ), rD_1 hD rfl rfl rfl rfl rfl, c1, c3, fun _ _ _ _ _ _ _ _ _ => rfl, fun a b => ⟨a, b⟩, Or.inr ⟨rfl, by omega, e3⟩, fun _ => rfl⟩
    · rw [e1, e2]
      simp only [Option.bind_some]
      unfold f_X11_goRide_82_b36
      rw [if_neg (by decide), if_neg (by decide), ← nI_succ]
      obtain ⟨s1, s2, s3, s4, s5, s6, s7, s8, s9, q, hq, s10⟩ := hst
      have go : ∀ τ2 : jT, τ2.2 = τ1.2 → (∀ i, i ≠ 4191 → τ2.1 i = τ1.1 i) → τ2.1 4191 = σ1.1 3147 → ∃ k' σ' τ', f_X5_go_b2 fu (nI N) (nI (k + 1)) σ1 = some (0, σ') ∧ f_X11_goRide_82_b7 fu (nI N) (nI (k + 1)) τ2 = some (nI k', τ') ∧ k ≤ k' ∧ k' ≤ N ∧ frC σ σ' ∧ frN 82 τ τ' ∧ rD P Q 82 f g σ' τ' ∧ σ'.1 3146 = nI k' ∧ τ'.1 4191 = σ'.1 3147 ∧ rowF f g (τ.2 82) (τ'.2 82) ∧
          (τ.2 82 (10 + f) = τ.2 82 0 → τ.2 82 (10 + g) = τ.2 82 0 → τ'.2 82 (10 + f) = τ'.2 82 0 ∧ τ'.2 82 (10 + g) = τ'.2 82 0) ∧
          ((σ'.1 3148 = 0 ∧ k' = N) ∨ (σ'.1 3148 = 1 ∧ k' < N ∧ f_X11_goesOn_82 τ' = some (0, τ'))) ∧ (k = k' → σ'.2 = σ.2) := by
        intro τ2 t1 t2 t3
        have fN : frN 82 τ τ2 := frN_trans (frN_M s2) ⟨fun i _ _ _ h4 => t2 i h4, fun o _ _ => by rw [t1]⟩
        have hL2 := frN_L (by decide) hL s1 fN
        have hU2 := frN_U (by decide) hU s1 fN
        have hD2 : rD P Q 82 f g σ1 τ2 := rD_1 s3 rfl t1 rfl rfl rfl
        obtain ⟨k', σ', τ', g1, g2, g3, g4, g5, g6, g7, g8, g9, g10, g11, g12, g13⟩ := ih (k + 1) fu σ1 τ2 (by omega) (by omega) hL2 hU2 hD2 (by rw [s6, c1, nI_succ]) (s5.trans c2) t3
        refine ⟨k', σ', τ', g1, g2, by omega, g4, frC_trans s1 g5, frN_trans fN g6, g7, g8, g9, rowF_trans s4 (by rw [← t1]; exact g10), fun _ _ => g11 (by rw [t1]; exact s7) (by rw [t1]; exact s8), g12, fun q => by omega⟩
      by_cases hc : τ1.1 4187 = -1
      · rw [if_pos hc]
        refine go τ1 rfl (fun _ _ => rfl) ?_
        rcases s9 with ⟨-, y⟩ | ⟨r, hr, y, -⟩
        · rw [y, ← c3]
          exact s2.1 4191 (by decide) (by decide) (by decide)
        · rw [y] at hc
          exact absurd hc (ja_neg1 (by omega))
      · rw [if_neg hc]
        refine go (gs τ1 4191 (τ1.1 4187)) rfl (fun i hi => if_neg hi) ?_
        rcases s9 with ⟨y, -⟩ | ⟨r, hr, y, y2⟩
        · exact absurd y hc
        · rw [y2, y]; rfl
/-- a ride of at most N STEPS: on both sides as many, to the same end -/
theorem go_66 {P Q f g N : Nat} (hQ : Q ≤ 6) (hN : N ≤ 900) : ∀ (m k fu : Nat) (σ τ : jT), k + m = N → m < fu → rL P σ τ → rU σ τ → rD P Q 66 f g σ τ → σ.1 3146 = nI k → σ.1 3148 = 0 → τ.1 4191 = σ.1 3147 →
    ∃ k' σ' τ', f_X5_go_b2 fu (nI N) (nI k) σ = some (0, σ') ∧ f_X11_goRide_66_b7 fu (nI N) (nI k) τ = some (nI k', τ') ∧ k ≤ k' ∧ k' ≤ N ∧ frC σ σ' ∧ frN 66 τ τ' ∧ rD P Q 66 f g σ' τ' ∧ σ'.1 3146 = nI k' ∧ τ'.1 4191 = σ'.1 3147 ∧ rowF f g (τ.2 66) (τ'.2 66) ∧
      (τ.2 66 (10 + f) = τ.2 66 0 → τ.2 66 (10 + g) = τ.2 66 0 → τ'.2 66 (10 + f) = τ'.2 66 0 ∧ τ'.2 66 (10 + g) = τ'.2 66 0) ∧
      ((σ'.1 3148 = 0 ∧ k' = N) ∨ (σ'.1 3148 = 1 ∧ k' < N ∧ f_X11_goesOn_66 τ' = some (0, τ'))) ∧ (k = k' → σ'.2 = σ.2) := by
  intro m
  induction m with
  | zero =>
    intro k fu σ τ hk hfu hL hU hD c1 c2 c3
    obtain ⟨fu, rfl⟩ : ∃ f', fu = f' + 1 := ⟨fu - 1, by omega⟩
    rw [f_X5_go_b2, f_X11_goRide_66_b7, if_pos ((ja_le (by omega) (by omega)).mpr (by omega)), if_pos ((ja_le (by omega) (by omega)).mpr (by omega))]
    exact ⟨k, σ, τ, rfl, rfl, Nat.le_refl _, by omega, frC_refl σ, frN_M (frM_refl 66 τ), hD, c1, c3, fun _ _ _ _ _ _ _ _ _ => rfl, fun a b => ⟨a, b⟩, Or.inl ⟨c2, by omega⟩, fun _ => rfl⟩
  | succ m ih =>
    intro k fu σ τ hk hfu hL hU hD c1 c2 c3
    obtain ⟨fu, rfl⟩ : ∃ f', fu = f' + 1 := ⟨fu - 1, by omega⟩
    have hlt : ¬ nI N ≤ nI k := fun q => by rw [ja_le (by omega) (by omega)] at q; omega
    rw [f_X5_go_b2, f_X11_goRide_66_b7, if_neg hlt, if_neg hlt]
    rcases step_66 hQ hL hU hD with ⟨e1, e2, e3⟩ | ⟨σ1, τ1, e1, e2, -, hst⟩
    · rw [e1, e2]
      simp only [Option.bind_some]
      rw [if_pos trivial]
      refine ⟨k, gs σ 3148 1, τ, rfl, rfl, Nat.le_refl _, by omega, ⟨fun i _ _ _ h4 => if_neg h4, fun _ _ _ _ _ _ => rfl⟩, frN_M (frM_refl 66 τ), rD_1 hD rfl rfl rfl rfl rfl, c1, c3, fun _ _ _ _ _ _ _ _ _ => rfl, fun a b => ⟨a, b⟩, Or.inr ⟨rfl, by omega, e3⟩, fun _ => rfl⟩
    · rw [e1, e2]
      simp only [Option.bind_some]
      unfold f_X11_goRide_66_b36
      rw [if_neg (by decide), if_neg (by decide), ← nI_succ]
      obtain ⟨s1, s2, s3, s4, s5, s6, s7, s8, s9, q, hq, s10⟩ := hst
      have go : ∀ τ2 : jT, τ2.2 = τ1.2 → (∀ i, i ≠ 4191 → τ2.1 i = τ1.1 i) → τ2.1 4191 = σ1.1 3147 → ∃ k' σ' τ', f_X5_go_b2 fu (nI N) (nI (k + 1)) σ1 = some (0, σ') ∧ f_X11_goRide_66_b7 fu (nI N) (nI (k + 1)) τ2 = some (nI k', τ') ∧ k ≤ k' ∧ k' ≤ N ∧ frC σ σ' ∧ frN 66 τ τ' ∧ rD P Q 66 f g σ' τ' ∧ σ'.1 3146 = nI k' ∧ τ'.1 4191 = σ'.1 3147 ∧ rowF f g (τ.2 66) (τ'.2 66) ∧
          (τ.2 66 (10 + f) = τ.2 66 0 → τ.2 66 (10 + g) = τ.2 66 0 → τ'.2 66 (10 + f) = τ'.2 66 0 ∧ τ'.2 66 (10 + g) = τ'.2 66 0) ∧
          ((σ'.1 3148 = 0 ∧ k' = N) ∨ (σ'.1 3148 = 1 ∧ k' < N ∧ f_X11_goesOn_66 τ' = some (0, τ'))) ∧ (k = k' → σ'.2 = σ.2) := by
        intro τ2 t1 t2 t3
        have fN : frN 66 τ τ2 := frN_trans (frN_M s2) ⟨fun i _ _ _ h4 => t2 i h4, fun o _ _ => by rw [t1]⟩
        have hL2 := frN_L (by decide) hL s1 fN
        have hU2 := frN_U (by decide) hU s1 fN
        have hD2 : rD P Q 66 f g σ1 τ2 := rD_1 s3 rfl t1 rfl rfl rfl
        obtain ⟨k', σ', τ', g1, g2, g3, g4, g5, g6, g7, g8, g9, g10, g11, g12, g13⟩ := ih (k + 1) fu σ1 τ2 (by omega) (by omega) hL2 hU2 hD2 (by rw [s6, c1, nI_succ]) (s5.trans c2) t3
        refine ⟨k', σ', τ', g1, g2, by omega, g4, frC_trans s1 g5, frN_trans fN g6, g7, g8, g9, rowF_trans s4 (by rw [← t1]; exact g10), fun _ _ => g11 (by rw [t1]; exact s7) (by rw [t1]; exact s8), g12, fun q => by omega⟩
      by_cases hc : τ1.1 4187 = -1
      · rw [if_pos hc]
        refine go τ1 rfl (fun _ _ => rfl) ?_
        rcases s9 with ⟨-, y⟩ | ⟨r, hr, y, -⟩
        · rw [y, ← c3]
          exact s2.1 4191 (by decide) (by decide) (by decide)
        · rw [y] at hc
          exact absurd hc (ja_neg1 (by omega))
      · rw [if_neg hc]
        refine go (gs τ1 4191 (τ1.1 4187)) rfl (fun i hi => if_neg hi) ?_
        rcases s9 with ⟨y, -⟩ | ⟨r, hr, y, y2⟩
        · exact absurd y hc
        · rw [y2, y]; rfl
