/-! ===== THE RULE: things ===== -/
def mT (L : Nat) (d : Nat → Nat) (i : Nat) (τ : jT) : Prop := mX L 40 i d τ ∧ τ.1 4185 = 0
def nT (L : Nat) (d : Nat → Nat) (i : Nat) (e : Nat → Int32) (τ : jT) : Prop := nX L i d τ ∧ τ.1 4185 = 1 ∧ ∀ z, z < 7 → τ.2 78 z = e z
theorem mT_1 {L i j : Nat} {d : Nat → Nat} {τ : jT} (h : mT L d i τ) (hj : j ≤ 80) : mT L d j (gs τ 4176 (nI j)) := ⟨mX_1 h.1 hj, h.2⟩
theorem nT_1 {L i j : Nat} {d : Nat → Nat} {e : Nat → Int32} {τ : jT} (h : nT L d i e τ) (hj : j ≤ 40) : nT L d j e (gs τ 4176 (nI j)) := ⟨nX_1 h.1 hj, h.2.1, h.2.2⟩
def cYs (L : Nat) (d : Nat → Nat) (r k i j : Nat) (C : List Int32) : Prop := ∀ (fu : Nat) (σ : jT) (q : Nat) (D : Nat → Int32), 6 * (4 - k) + 6 ≤ fu + r → bX L 40 d σ → q ≤ i → f_rec0 fu 0 [nI r, nI k] (cQ σ i q D) = some (1, cQ σ j (q + C.length) (wr D q C))
def cNs (L : Nat) (d : Nat → Nat) (r k i e : Nat) : Prop := ∀ (fu : Nat) (σ : jT) (q : Nat) (D : Nat → Int32), 6 * (4 - k) + 6 ≤ fu + r → bX L 40 d σ → q ≤ i → ∃ q' D', q' ≤ 40 ∧ f_rec0 fu 0 [nI r, nI k] (cQ σ i q D) = some (0, cQ σ e q' D')
def tYs (L : Nat) (d : Nat → Nat) (g c k i j : Nat) : Prop := ∀ (fu : Nat) (τ : jT), c ≤ fu + i + 4 * k → mT L d i τ → ∃ v, f_rec2 fu g [nI k] τ = some (v, gs τ 4176 (nI j))
def tNs (L : Nat) (d : Nat → Nat) (g c k i e : Nat) : Prop := ∀ (fu : Nat) (τ : jT), c ≤ fu + i + 4 * k → mT L d i τ → ∃ v a, f_rec2 fu g [nI k] τ = some (v, gs (gs τ 4176 a) 4177 (nI e))
def rYs (L : Nat) (d : Nat → Nat) (g c k i j : Nat) (ev : (Nat → Int32) → Int32) : Prop := ∀ (e : Nat → Int32) (fu : Nat) (τ : jT), c ≤ fu + i + 4 * k → nT L d i e τ → f_rec3 fu g [nI k] τ = some (ev e, gs τ 4176 (nI j))
/-- what is read from i on, on both sides, and what it reckons -/
def pOK (L : Nat) (d : Nat → Nat) (r g c k i : Nat) : Prop :=
  (∃ (j : Nat) (C : List Int32) (ev : (Nat → Int32) → Int32), i < j ∧ j ≤ 40 ∧ j ≤ L ∧ C.length + i ≤ j ∧ cYs L d r k i j C ∧ tYs L d g c k i j ∧ rYs L d g c k i j ev ∧ ∀ e st, rnL e C st = ev e :: st) ∨
  ∃ e, e ≤ 40 ∧ cNs L d r k i e ∧ tNs L d g c k i e
theorem gsT {τ : jT} {i : Nat} (x : Int32) (h : τ.1 4176 = nI i) : gs τ 4177 x = gs (gs τ 4176 (nI i)) 4177 x := by rw [gs_same h]
theorem th_T (rec : Nat → List Int32 → jT → Option (Int32 × jT)) {L i : Nat} {d : Nat → Nat} {τ : jT} (x : Int32) (h : mX L 40 i d τ) (h45 : ¬ sIn L 40 d i 45 45) : f_X11_thing_T rec x τ = if ¬ sgn L 40 d i = 40 then f_X11_thing_T_b67 rec (sgn L 40 d i) τ else if 4 ≤ x then f_X11_thing_T_b67 rec (sgn L 40 d i) τ else (rec 3 [x + 1] (gs τ 4176 (nI (i + 1)))).bind fun q8 => (f_X11_need_T 41 q8.2).bind fun q9 => some (q8.1, q9.2) := by
  unfold f_X11_thing_T
  have e45 : f_X11_passes_T 45 τ = some (0, τ) := (m_passes (a := 45) h (by omega)).trans (if_neg h45)
  rw [e45]
  simp only [bnd]
  rw [iT, m_fine h.2.2.2.2.2.2.1]
  simp only [bnd]
  rw [if_pos (show ¬ (1 : Int32) = 0 by decide), m_here h]
  simp only [bnd]
  rw [h.2.2.2.2.2.1, nS]
theorem th45_T (rec : Nat → List Int32 → jT → Option (Int32 × jT)) {L i : Nat} {d : Nat → Nat} {τ : jT} (x : Int32) (h : mX L 40 i d τ) (h45 : sIn L 40 d i 45 45) : f_X11_thing_T rec x τ = (rec 2 [x] (gs τ 4176 (nI (i + 1)))).bind fun q10 => some (-q10.1, q10.2) := by
  unfold f_X11_thing_T
  have e45 : f_X11_passes_T 45 τ = some (1, gs τ 4176 (nI (i + 1))) := (m_passes (a := 45) h (by omega)).trans (if_pos h45)
  rw [e45]
  simp only [bnd]
  rw [if_neg (show ¬ (1 : Int32) = 0 by decide)]
theorem b67n_T (rec : Nat → List Int32 → jT → Option (Int32 × jT)) {L i : Nat} {d : Nat → Nat} {τ : jT} (h : mX L 40 i d τ) (c : sIn L 40 d i 48 57) : f_X11_thing_T_b67 rec (sgn L 40 d i) τ = some (nI (n3V L 40 d i), gs τ 4176 (nI (i + n3D L 40 d i))) := by
  unfold f_X11_thing_T_b67
  have es : f_X11_in (sgn L 40 d i) 48 57 τ = some (if sIn L 40 d i 48 57 then 1 else 0, τ) := m_inS (a := 48) (b := 57) (fun j hj => (h.2.2.2.2.2.2.2 j hj).1) (by omega) (by omega)
  rw [es, if_pos c]
  simp only [bnd]
  rw [if_neg (show ¬ (1 : Int32) = 0 by decide), m_num3 h c]
  simp only [bnd]
theorem b67l_T (rec : Nat → List Int32 → jT → Option (Int32 × jT)) {L i t : Nat} {d : Nat → Nat} {τ : jT} (h : mX L 40 i d τ) (h85 : τ.1 4185 = 0) (c : ¬ sIn L 40 d i 48 57) (ht : t < 7) (hl : ltO (sgn L 40 d i) = nI t) : f_X11_thing_T_b67 rec (sgn L 40 d i) τ = some (0, gs τ 4176 (nI (i + 1))) := by
  unfold f_X11_thing_T_b67
  have es : f_X11_in (sgn L 40 d i) 48 57 τ = some (if sIn L 40 d i 48 57 then 1 else 0, τ) := m_inS (a := 48) (b := 57) (fun j hj => (h.2.2.2.2.2.2.2 j hj).1) (by omega) (by omega)
  rw [es, if_neg c]
  simp only [bnd]
  rw [iT, m_letter]
  simp only [bnd]
  rw [hl, if_pos (ja_neg1 (by omega)), h85, h.2.2.2.2.2.1, nS]
  rw [if_pos rfl]
theorem th_R (rec : Nat → List Int32 → jT → Option (Int32 × jT)) {L i : Nat} {d : Nat → Nat} {τ : jT} (x : Int32) (h : nX L i d τ) (h45 : ¬ sIn L 40 d i 45 45) : f_X11_thing_R rec x τ = if ¬ sgn L 40 d i = 40 then f_X11_thing_R_b67 rec (sgn L 40 d i) τ else if 4 ≤ x then f_X11_thing_R_b67 rec (sgn L 40 d i) τ else (rec 3 [x + 1] (gs τ 4176 (nI (i + 1)))).bind fun q8 => (f_X11_need_R 41 q8.2).bind fun q9 => some (q8.1, q9.2) := by
  unfold f_X11_thing_R
  have e45 : f_X11_passes_R 45 τ = some (0, τ) := (n_passes (a := 45) h (by omega)).trans (if_neg h45)
  rw [e45]
  simp only [bnd]
  rw [iT, m_fine h.2.2.2.2.2.1]
  simp only [bnd]
  rw [if_pos (show ¬ (1 : Int32) = 0 by decide), n_here h]
  simp only [bnd]
  rw [h.2.2.2.2.1, nS]
theorem th45_R (rec : Nat → List Int32 → jT → Option (Int32 × jT)) {L i : Nat} {d : Nat → Nat} {τ : jT} (x : Int32) (h : nX L i d τ) (h45 : sIn L 40 d i 45 45) : f_X11_thing_R rec x τ = (rec 2 [x] (gs τ 4176 (nI (i + 1)))).bind fun q10 => some (-q10.1, q10.2) := by
  unfold f_X11_thing_R
  have e45 : f_X11_passes_R 45 τ = some (1, gs τ 4176 (nI (i + 1))) := (n_passes (a := 45) h (by omega)).trans (if_pos h45)
  rw [e45]
  simp only [bnd]
  rw [if_neg (show ¬ (1 : Int32) = 0 by decide)]
theorem b67n_R (rec : Nat → List Int32 → jT → Option (Int32 × jT)) {L i : Nat} {d : Nat → Nat} {τ : jT} (h : nX L i d τ) (c : sIn L 40 d i 48 57) : f_X11_thing_R_b67 rec (sgn L 40 d i) τ = some (nI (n3V L 40 d i), gs τ 4176 (nI (i + n3D L 40 d i))) := by
  unfold f_X11_thing_R_b67
  have es : f_X11_in (sgn L 40 d i) 48 57 τ = some (if sIn L 40 d i 48 57 then 1 else 0, τ) := m_inS (a := 48) (b := 57) (fun j hj => (h.2.2.2.2.2.2 j hj).1) (by omega) (by omega)
  rw [es, if_pos c]
  simp only [bnd]
  rw [if_neg (show ¬ (1 : Int32) = 0 by decide), n_num3 h c]
  simp only [bnd]
theorem b67l_R (rec : Nat → List Int32 → jT → Option (Int32 × jT)) {L i t : Nat} {d : Nat → Nat} {τ : jT} (h : nX L i d τ) {e : Nat → Int32} (h85 : τ.1 4185 = 1) (he : ∀ z, z < 7 → τ.2 78 z = e z) (c : ¬ sIn L 40 d i 48 57) (ht : t < 7) (hl : ltO (sgn L 40 d i) = nI t) : f_X11_thing_R_b67 rec (sgn L 40 d i) τ = some (e t, gs τ 4176 (nI (i + 1))) := by
  unfold f_X11_thing_R_b67
  have es : f_X11_in (sgn L 40 d i) 48 57 τ = some (if sIn L 40 d i 48 57 then 1 else 0, τ) := m_inS (a := 48) (b := 57) (fun j hj => (h.2.2.2.2.2.2 j hj).1) (by omega) (by omega)
  rw [es, if_neg c]
  simp only [bnd]
  rw [iT, m_letter]
  simp only [bnd]
  rw [hl, if_pos (ja_neg1 (by omega)), h85, h.2.2.2.2.1, nS]
  rw [if_neg (show ¬ (1 : Int32) = 0 by decide), m_letter]
  simp only [bnd]
  rw [hl, if_pos (ja_in (by omega) (by omega)), nI_clamp (by omega)]
  rw [show (gs τ 4176 (nI (i + 1))).2 78 t = e t from he t ht]
theorem b67x_T (rec : Nat → List Int32 → jT → Option (Int32 × jT)) {L i : Nat} {d : Nat → Nat} {τ : jT} (h : mX L 40 i d τ) (c : ¬ sIn L 40 d i 48 57) (hl : ltO (sgn L 40 d i) = -1) : f_X11_thing_T_b67 rec (sgn L 40 d i) τ = some (0, gs τ 4177 (nI i)) := by
  unfold f_X11_thing_T_b67
  have es : f_X11_in (sgn L 40 d i) 48 57 τ = some (if sIn L 40 d i 48 57 then 1 else 0, τ) := m_inS (a := 48) (b := 57) (fun j hj => (h.2.2.2.2.2.2.2 j hj).1) (by omega) (by omega)
  rw [es, if_neg c]
  simp only [bnd]
  rw [iT, m_letter]
  simp only [bnd]
  rw [hl, if_neg (fun q => q rfl), m_fault h.2.2.2.2.2.2.1, h.2.2.2.2.2.1]
  simp only [bnd]
/-! the class -/
theorem cth_n {L i q : Nat} {d : Nat → Nat} {σ : jT} {D : Nat → Int32} (h : bX L 40 d σ) (hi : i ≤ 40) (hq : q ≤ i) (c : sIn L 40 d i 48 57) : f_X7_takeThing_1 (cQ σ i q D) = some (1, cQ σ (i + n3D L 40 d i) (q + 1) (wr D q [nI (n3V L 40 d i)])) := by
  have hn := n3_le c
  have c1 := c.1
  unfold f_X7_takeThing_1
  rw [cq_num3 h (by omega), if_pos c]
  simp only [bnd]
  rw [if_neg (ja_neg1 (by omega)), cq_write (by omega)]
  simp only [bnd]
theorem cth_l {L i q t : Nat} {d : Nat → Nat} {σ : jT} {D : Nat → Int32} (h : bX L 40 d σ) (hq : q ≤ i) (h1 : i < 40) (h2 : i < L) (c : ¬ sIn L 40 d i 48 57) (ht : t < 7) (hl : ltO (sgn L 40 d i) = nI t) : f_X7_takeThing_1 (cQ σ i q D) = some (1, cQ σ (i + 1) (q + 1) (wr D q [1000 + nI t])) := by
  unfold f_X7_takeThing_1
  have e0 : n3D L 40 d i = 0 := if_neg c
  rw [cq_num3 h (by omega), if_neg c, e0]
  simp only [bnd]
  rw [iT, show i + 0 = i from rfl, cq_peek h (by omega)]
  simp only [bnd]
  rw [c_thing]
  simp only [bnd]
  rw [hl, if_pos (ja_neg1 (by omega)), cq_next h h1 h2]
  simp only [bnd]
  rw [cq_write (by omega)]
  simp only [bnd]
theorem cth_x {L i q : Nat} {d : Nat → Nat} {σ : jT} {D : Nat → Int32} (h : bX L 40 d σ) (hi : i ≤ 40) (c : ¬ sIn L 40 d i 48 57) (hl : ltO (sgn L 40 d i) = -1) : f_X7_takeThing_1 (cQ σ i q D) = some (0, cQ σ i q D) := by
  unfold f_X7_takeThing_1
  have e0 : n3D L 40 d i = 0 := if_neg c
  rw [cq_num3 h (by omega), if_neg c, e0]
  simp only [bnd]
  rw [iT, show i + 0 = i from rfl, cq_peek h (by omega)]
  simp only [bnd]
  rw [c_thing]
  simp only [bnd]
  rw [hl, if_neg (fun q => q rfl)]
/-- a thing without a sign ahead of it -/
def kOK (L : Nat) (d : Nat → Nat) (k i : Nat) : Prop :=
  (∃ (j : Nat) (C : List Int32) (ev : (Nat → Int32) → Int32), i < j ∧ j ≤ 40 ∧ j ≤ L ∧ C.length + i ≤ j ∧
    (∀ (fu : Nat) (σ : jT) (q : Nat) (D : Nat → Int32) (x3 : Int32), 6 * (4 - k) + 1 ≤ fu → bX L 40 d σ → q ≤ i → f_X7_takeSigned_1_b37 (f_rec0 fu) (nI k) x3 (cQ σ i q D) = f_X7_takeSigned_1_b60 (f_rec0 fu) x3 1 (cQ σ j (q + C.length) (wr D q C))) ∧
    (∀ (fu : Nat) (τ : jT), 56 ≤ fu + i + 4 * k → mT L d i τ → ∃ v, f_X11_thing_T (f_rec2 fu) (nI k) τ = some (v, gs τ 4176 (nI j))) ∧
    (∀ (e : Nat → Int32) (fu : Nat) (τ : jT), 56 ≤ fu + i + 4 * k → nT L d i e τ → f_X11_thing_R (f_rec3 fu) (nI k) τ = some (ev e, gs τ 4176 (nI j))) ∧ ∀ e st, rnL e C st = ev e :: st) ∨
  ∃ e, e ≤ 40 ∧ (∀ (fu : Nat) (σ : jT) (q : Nat) (D : Nat → Int32) (x3 : Int32), 6 * (4 - k) + 1 ≤ fu → bX L 40 d σ → q ≤ i → ∃ q' D', q' ≤ 40 ∧ f_X7_takeSigned_1_b37 (f_rec0 fu) (nI k) x3 (cQ σ i q D) = f_X7_takeSigned_1_b60 (f_rec0 fu) x3 0 (cQ σ e q' D')) ∧
    (∀ (fu : Nat) (τ : jT), 56 ≤ fu + i + 4 * k → mT L d i τ → ∃ v a, f_X11_thing_T (f_rec2 fu) (nI k) τ = some (v, gs (gs τ 4176 a) 4177 (nI e)))
theorem b37_th {L i q k fu : Nat} {d : Nat → Nat} {σ : jT} {D : Nat → Int32} {x3 : Int32} (h : bX L 40 d σ) (hi : i ≤ 40) (h40 : ¬ sgn L 40 d i = 40) : f_X7_takeSigned_1_b37 (f_rec0 fu) (nI k) x3 (cQ σ i q D) = (f_X7_takeThing_1 (cQ σ i q D)).bind fun q3 => f_X7_takeSigned_1_b60 (f_rec0 fu) x3 q3.1 q3.2 := by
  unfold f_X7_takeSigned_1_b37
  rw [cq_peek h (by omega)]
  simp only [bnd]
  rw [if_pos h40]
theorem b37_in {L i q k fu : Nat} {d : Nat → Nat} {σ : jT} {D : Nat → Int32} {x3 : Int32} (h : bX L 40 d σ) (h1 : i < 40) (h2 : i < L) (h40 : sgn L 40 d i = 40) : f_X7_takeSigned_1_b37 (f_rec0 (fu + 1)) (nI k) x3 (cQ σ i q D) = (f_X7_takeInner_1 (f_rec0 fu) (nI k) (cQ σ i q D)).bind fun q3 => f_X7_takeSigned_1_b60 (f_rec0 (fu + 1)) x3 q3.1 q3.2 := by
  unfold f_X7_takeSigned_1_b37
  rw [cq_peek h (by omega)]
  simp only [bnd]
  rw [if_neg (fun q => q h40)]
  rfl
theorem k_ok {L k i : Nat} {d : Nat → Nat} (hd : ∀ j, j < L → d j < 256) (hk : k ≤ 4) (hin : k < 4 → ∀ i, i ≤ 40 → i ≤ L → pOK L d 0 3 60 (k + 1) i) (hi : i ≤ 40) (hL : i ≤ L) (h45 : ¬ sIn L 40 d i 45 45) : kOK L d k i := by
  by_cases c : sIn L 40 d i 48 57
  · -- a number
    obtain ⟨n1, n2, n3, n4⟩ := n3_le c
    have h40 : ¬ sgn L 40 d i = 40 := fun q => by
      have := (sIn_eq (a := 40) (M := 40) (i := i) hd (by omega)).1 q
      have c3 := c.2.2.1
      have := this.2.2.2
      omega
    refine Or.inl ⟨i + n3D L 40 d i, [nI (n3V L 40 d i)], fun _ => nI (n3V L 40 d i), by omega, n3, n2, by show 1 + i ≤ _; omega, fun fu σ q D x3 hf hb hq => ?_, fun fu τ hf hm => ?_, fun e fu τ hf hm => ?_, fun e st => rn_num n4 st⟩
    · rw [b37_th hb hi h40, cth_n hb hi hq c]
      simp only [bnd]
      rfl
    · exact ⟨_, by rw [th_T _ _ hm.1 h45, if_pos h40, b67n_T _ hm.1 c]⟩
    · rw [th_R _ _ hm.1 h45, if_pos h40, b67n_R _ hm.1 c]
  · by_cases h40 : sgn L 40 d i = 40
    · have hs := (sIn_eq (a := 40) (M := 40) (i := i) hd (by omega)).1 h40
      have h1 := hs.1
      have h2 := hs.2.1
      by_cases hk4 : k < 4
      · -- what stands between brackets
        rcases hin hk4 (i + 1) (by omega) (by omega) with ⟨j, C, ev, a1, a2, a3, a4, a5, a6, a7, a8⟩ | ⟨e, a1, a2, a3⟩
        · by_cases cl : sIn L 40 d j 41 41
          · have cl1 := cl.1
            have cl2 := cl.2.1
            refine Or.inl ⟨j + 1, C, ev, by omega, by omega, by omega, by omega, fun fu σ q D x3 hf hb hq => ?_, fun fu τ hf hm => ?_, fun e fu τ hf hm => ?_, a8⟩
            · obtain ⟨fu, rfl⟩ : ∃ f', fu = f' + 1 := ⟨fu - 1, by omega⟩
              rw [b37_in hb h1 h2 h40]
              unfold f_X7_takeInner_1
              rw [if_pos (show nI k < 4 from nI_lt (b := 4) hk4 (by omega)), cq_next hb h1 h2]
              simp only [bnd]
              rw [nS, show (0 : Int32) = nI 0 from rfl, a5 fu σ q D (by omega) hb (by omega)]
              simp only [bnd]
              have ht : f_X9_take 41 (cQ σ j (q + C.length) (wr D q C)) = some (1, cQ σ (j + 1) (q + C.length) (wr D q C)) := (cq_take (a := 41) hb (by omega) (by omega)).trans (if_pos cl)
              rw [if_neg (show ¬ (1 : Int32) = nI 0 by decide), ht]
              simp only [bnd]
              rw [if_neg (show ¬ (1 : Int32) = nI 0 by decide)]
              simp only [bnd]
            · obtain ⟨v, w⟩ := a6 fu (gs τ 4176 (nI (i + 1))) (by omega) (mT_1 hm (by omega))
              have hn : f_X11_need_T 41 (gs τ 4176 (nI j)) = some (0, gs (gs τ 4176 (nI j)) 4176 (nI (j + 1))) := (m_need (a := 41) (mX_1 hm.1 (show j ≤ 80 by omega)) (by omega)).trans (if_pos cl)
              refine ⟨v, ?_⟩
              rw [th_T _ _ hm.1 h45, if_neg (fun q => q h40), if_neg (show ¬ (4 : Int32) ≤ nI k from nI_ge (b := 4) hk4 (by omega)), nS, w]
              simp only [bnd]
              rw [gs_gs, hn]
              simp only [bnd]
              rw [gs_gs]
            · have w := a7 e fu (gs τ 4176 (nI (i + 1))) (by omega) (nT_1 hm (by omega))
              have hn : f_X11_need_R 41 (gs τ 4176 (nI j)) = some (0, gs (gs τ 4176 (nI j)) 4176 (nI (j + 1))) := n_need (a := 41) (nX_1 hm.1 (show j ≤ 40 by omega)) (by omega) cl
              rw [th_R _ _ hm.1 h45, if_neg (fun q => q h40), if_neg (show ¬ (4 : Int32) ≤ nI k from nI_ge (b := 4) hk4 (by omega)), nS, w]
              simp only [bnd]
              rw [gs_gs, hn]
              simp only [bnd]
              rw [gs_gs]
          · refine Or.inr ⟨j, by omega, fun fu σ q D x3 hf hb hq => ?_, fun fu τ hf hm => ?_⟩
            · obtain ⟨fu, rfl⟩ : ∃ f', fu = f' + 1 := ⟨fu - 1, by omega⟩
              refine ⟨q + C.length, wr D q C, by omega, ?_⟩
              rw [b37_in hb h1 h2 h40]
              unfold f_X7_takeInner_1
              rw [if_pos (show nI k < 4 from nI_lt (b := 4) hk4 (by omega)), cq_next hb h1 h2]
              simp only [bnd]
              rw [nS, show (0 : Int32) = nI 0 from rfl, a5 fu σ q D (by omega) hb (by omega)]
              simp only [bnd]
              have ht : f_X9_take 41 (cQ σ j (q + C.length) (wr D q C)) = some (nI 0, cQ σ j (q + C.length) (wr D q C)) := (cq_take (a := 41) hb (by omega) (by omega)).trans (if_neg cl)
              rw [if_neg (show ¬ (1 : Int32) = nI 0 by decide), ht]
              simp only [bnd]
              rw [iT]
              simp only [bnd]
            · obtain ⟨v, w⟩ := a6 fu (gs τ 4176 (nI (i + 1))) (by omega) (mT_1 hm (by omega))
              have hn : f_X11_need_T 41 (gs τ 4176 (nI j)) = some (0, gs (gs τ 4176 (nI j)) 4177 (nI j)) := (m_need (a := 41) (mX_1 hm.1 (show j ≤ 80 by omega)) (by omega)).trans (if_neg cl)
              refine ⟨v, nI j, ?_⟩
              rw [th_T _ _ hm.1 h45, if_neg (fun q => q h40), if_neg (show ¬ (4 : Int32) ≤ nI k from nI_ge (b := 4) hk4 (by omega)), nS, w]
              simp only [bnd]
              rw [gs_gs, hn]
              simp only [bnd]
        · refine Or.inr ⟨e, a1, fun fu σ q D x3 hf hb hq => ?_, fun fu τ hf hm => ?_⟩
          · obtain ⟨fu, rfl⟩ : ∃ f', fu = f' + 1 := ⟨fu - 1, by omega⟩
            obtain ⟨q', D', w1, w2⟩ := a2 fu σ q D (by omega) hb (by omega)
            refine ⟨q', D', w1, ?_⟩
            rw [b37_in hb h1 h2 h40]
            unfold f_X7_takeInner_1
            rw [if_pos (show nI k < 4 from nI_lt (b := 4) hk4 (by omega)), cq_next hb h1 h2]
            simp only [bnd]
            rw [nS, show f_rec0 fu 0 [0, nI (k + 1)] (cQ σ (i + 1) q D) = _ from w2]
            simp only [bnd]
            rw [iT]
            simp only [bnd]
          · obtain ⟨v, a, w⟩ := a3 fu (gs τ 4176 (nI (i + 1))) (by omega) (mT_1 hm (by omega))
            refine ⟨v, a, ?_⟩
            rw [th_T _ _ hm.1 h45, if_neg (fun q => q h40), if_neg (show ¬ (4 : Int32) ≤ nI k from nI_ge (b := 4) hk4 (by omega)), nS, w]
            simp only [bnd]
            rw [m_need0 (show ¬ (gs (gs (gs τ 4176 (nI (i + 1))) 4176 a) 4177 (nI e)).1 4177 = -1 from ja_neg1 (k := e) (by omega))]
            simp only [bnd]
            rw [gs_gs]
      · refine Or.inr ⟨i, hi, fun fu σ q D x3 hf hb hq => ?_, fun fu τ hf hm => ?_⟩
        · obtain ⟨fu, rfl⟩ : ∃ f', fu = f' + 1 := ⟨fu - 1, by omega⟩
          refine ⟨q, D, by omega, ?_⟩
          rw [b37_in hb h1 h2 h40]
          unfold f_X7_takeInner_1
          rw [if_neg (show ¬ nI k < 4 from fun q => by have := (ja_lt (b := 4) (by omega) (by omega)).1 q; omega)]
          simp only [bnd]
        · refine ⟨0, nI i, ?_⟩
          rw [th_T _ _ hm.1 h45, if_neg (fun q => q h40), if_pos (show (4 : Int32) ≤ nI k from (ja_le (a := 4) (by omega) (by omega)).2 (by omega)), b67x_T _ hm.1 c (by rw [h40]; decide), gsT _ hm.1.2.2.2.2.2.1]
    · rcases lt_val (sgn L 40 d i) with hl | ⟨⟨t, ht, hl⟩, x1, -, -, -⟩
      · -- nothing that may stand here
        refine Or.inr ⟨i, hi, fun fu σ q D x3 hf hb hq => ⟨q, D, by omega, ?_⟩, fun fu τ hf hm => ⟨0, nI i, ?_⟩⟩
        · rw [b37_th hb hi h40, cth_x hb hi c hl]
          simp only [bnd]
        · rw [th_T _ _ hm.1 h45, if_pos h40, b67x_T _ hm.1 c hl, gsT _ hm.1.2.2.2.2.2.1]
      · have hs : i < 40 ∧ i < L := by
          by_cases z : i < 40 ∧ i < L
          · exact z
          · exact absurd (if_neg z) x1
        refine Or.inl ⟨i + 1, [1000 + nI t], fun e => e t, by omega, by omega, by omega, by show 1 + i ≤ _; omega, fun fu σ q D x3 hf hb hq => ?_, fun fu τ hf hm => ?_, fun e fu τ hf hm => ?_, fun e st => rn_let ht st⟩
        · rw [b37_th hb hi h40, cth_l hb hq hs.1 hs.2 c ht hl]
          simp only [bnd]
          rfl
        · exact ⟨0, by rw [th_T _ _ hm.1 h45, if_pos h40, b67l_T _ hm.1 hm.2 c ht hl]⟩
        · rw [th_R _ _ hm.1 h45, if_pos h40, b67l_R _ hm.1 hm.2.1 hm.2.2 c ht hl]
