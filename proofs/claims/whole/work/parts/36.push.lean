/-! ===== what is remembered, on both sides ===== -/
def coreCn (σ : jT) := ((σ.1 65, σ.2 2), (σ.1 195, σ.1 196, σ.2 4, σ.2 5), (σ.1 197, σ.2 6), (σ.2 8, σ.1 452), (σ.1 898, σ.1 899, pastC σ), (σ.1 900, keptC σ), (σ.1 3009, σ.2 48), (σ.1 12, σ.2 62))
def coreMn (τ : jT) := ((τ.1 4169, τ.2 71), (τ.1 4161, τ.1 4164, τ.2 67, τ.2 68), (τ.1 4165, τ.2 69, τ.2 70), (τ.2 77, τ.1 4184), (τ.1 4189, τ.2 79), (τ.1 4208, τ.2 92, τ.2 93, τ.2 94), (τ.1 4171, τ.2 72), (τ.1 4203, τ.2 88))
/-- the two sides, but for how they stand -/
def rBut (n P Q : Nat) (σ τ : jT) : Prop := (n < 5000 → rT σ τ) ∧ rL P σ τ ∧ rR Q σ τ ∧ rU σ τ ∧ rH P Q σ τ ∧ rK n P Q σ τ ∧ rW σ τ ∧ rP P σ τ
theorem rBut_of {n P Q : Nat} {σ τ : jT} (h : rAll n P Q σ τ) : rBut n P Q σ τ := by
  obtain ⟨g1, g2, g3, -, g5, g6, g7, g8, g9⟩ := h
  exact ⟨g1, g2, g3, g5, g6, g7, g8, g9⟩
theorem rBut_all {n P Q : Nat} {σ τ : jT} (h : rBut n P Q σ τ) (hn : rN P Q σ τ) : rAll n P Q σ τ := by
  obtain ⟨g1, g2, g3, g5, g6, g7, g8, g9⟩ := h
  exact ⟨g1, g2, g3, hn, g5, g6, g7, g8, g9⟩
theorem rBut_core {n P Q : Nat} {σ σ' τ τ' : jT} (h : rBut n P Q σ τ) (h1 : coreCn σ' = coreCn σ) (h2 : coreMn τ' = coreMn τ) : rBut n P Q σ' τ' := by
  simp only [coreCn, Prod.mk.injEq] at h1
  simp only [coreMn, Prod.mk.injEq] at h2
  obtain ⟨⟨a1, a2⟩, ⟨a3, a4, a5, a6⟩, ⟨a7, a8⟩, ⟨a10, a11⟩, ⟨a12, a13, a14⟩, ⟨a15, a16⟩, ⟨a17, a18⟩, ⟨a19, a20⟩⟩ := h1
  obtain ⟨⟨b1, b2⟩, ⟨b3, b4, b5, b6⟩, ⟨b7, b8, b9⟩, ⟨b11, b12⟩, ⟨b13, b14⟩, ⟨b15, b16, b17, b18⟩, ⟨b19, b20⟩, ⟨b21, b22⟩⟩ := h2
  simp only [rBut, rT, rL, rR, rU, rH, rK, rW, rP] at h ⊢
  simp only [a1, a2, a3, a4, a5, a6, a7, a8, a10, a11, a12, a13, a14, a15, a16, a17, a18, a19, a20, b1, b2, b3, b4, b5, b6, b7, b8, b9, b11, b12, b13, b14, b15, b16, b17, b18, b19, b20, b21, b22]
  exact h
/-- noted: nothing else changes -/
theorem rAll_note {n P Q N S : Nat} {σ τ : jT} (h : rAll n P Q σ τ) (hN : N < 13) (h1 : σ.1 898 = nI N) (h2 : σ.1 899 = nI S) (hS : S ≤ 12) : rAll n P Q (cNote σ N) τ := by
  obtain ⟨g1, g2, g3, g4, g5, ⟨S', N', hS', hN', e1, e2, e3, e4⟩, g7, g8, g9⟩ := h
  have f : ∀ o, o % 2 = 0 ∨ o < 17 ∨ 41 < o → (cNote σ N).2 o = σ.2 o := fun o ho => cNote_2 σ (by omega)
  have hSS : S' = S := (ja_eq (by omega) (by omega)).mp (e1.symm.trans h2)
  have hNN : N' = N := (ja_eq (by omega) (by omega)).mp (e3.symm.trans h1)
  subst hSS hNN
  refine ⟨?_, ?_, ?_, ?_, ?_, ?_, ?_, ?_, ?_⟩
  · unfold rT at g1 ⊢; rw [f 2 (by omega)]; exact g1
  · unfold rL at g2 ⊢; rw [f 4 (by omega), f 5 (by omega)]; exact g2
  · unfold rR at g3 ⊢; rw [f 6 (by omega)]; exact g3
  · unfold rN at g4 ⊢; rw [f 13 (by omega), f 6 (by omega)]; exact g4
  · unfold rU at g5 ⊢; rw [f 8 (by omega)]; exact g5
  · refine ⟨S', N', hS', hN', e1, e2, e3, fun i hi => ?_⟩
    rw [cNote_p σ (by omega) (by omega)]
    exact e4 i hi
  · unfold rK at g7 ⊢; rw [cNote_k σ hN]; exact g7
  · unfold rW at g8 ⊢; rw [f 48 (by omega)]; exact g8
  · unfold rP at g9 ⊢; rw [f 62 (by omega)]; exact g9
def shT (τ : jT) (k : Nat) : jT := (τ.1, fun o j => if o = 79 ∧ j < k then τ.2 79 (j + 28) else τ.2 o j)
theorem shT_0 (τ : jT) : shT τ 0 = τ := by
  unfold shT
  have : (fun o j => if o = 79 ∧ j < 0 then τ.2 79 (j + 28) else τ.2 o j) = τ.2 := by
    funext o j
    rw [if_neg (by omega)]
  rw [this]
theorem shT_s (τ : jT) (k : Nat) : gA (shT τ k) 79 k ((shT τ k).2 79 (k + 28)) = shT τ (k + 1) := by
  unfold gA shT
  simp only
  congr 1
  funext o j
  unfold jx_up2
  simp only
  rw [if_neg (show ¬ (True ∧ k + 28 < k) from fun q => by omega)]
  by_cases h1 : o = 79 ∧ j = k
  · obtain ⟨rfl, rfl⟩ := h1
    rw [if_pos ⟨rfl, rfl⟩, if_pos ⟨rfl, by omega⟩]
  · rw [if_neg h1]
    by_cases h2 : o = 79 ∧ j < k
    · rw [if_pos h2, if_pos ⟨h2.1, by omega⟩]
    · rw [if_neg h2, if_neg (fun q => by
        rcases Nat.lt_or_ge j k with z | z
        · exact h2 ⟨q.1, z⟩
        · exact h1 ⟨q.1, by omega⟩)]
theorem shT_in (τ : jT) {k j : Nat} (h : j < k) : (shT τ k).2 79 j = τ.2 79 (j + 28) := if_pos ⟨rfl, h⟩
theorem shT_ne (τ : jT) {k o : Nat} (h : o ≠ 79) : (shT τ k).2 o = τ.2 o := by
  funext j
  exact if_neg (fun q => h q.1)
theorem lyT_in (τ : jT) {S D a k j : Nat} (h1 : a ≤ j) (h2 : j < a + k) : (lyT τ S D a k).2 D j = τ.2 S (j - a) := if_pos ⟨rfl, h1, h2⟩
theorem lyT_out (τ : jT) {S D a k j : Nat} (h : ¬ (a ≤ j ∧ j < a + k)) : (lyT τ S D a k).2 D j = τ.2 D j := if_neg (fun q => h q.2)
theorem lyT_ne (τ : jT) {S D a k o : Nat} (h : o ≠ D) : (lyT τ S D a k).2 o = τ.2 o := by
  funext j
  exact if_neg (fun q => h q.1)
/-- what the model's remembering leaves -/
def mRemd (src S : Nat) (τ τ' : jT) : Prop := τ'.1 4189 = nI (min (S + 1) 12) ∧ (∀ i, i ≠ 4189 → τ'.1 i = τ.1 i) ∧ (∀ o, o ≠ 79 → τ'.2 o = τ.2 o) ∧ (∀ k, k < 28 → τ'.2 79 (28 * (min (S + 1) 12 - 1) + k) = τ.2 src k) ∧ ∀ i, i + 1 < min (S + 1) 12 → ∀ k, k < 28 → τ'.2 79 (28 * (min (S + 1) 12 - 1 - (i + 1)) + k) = τ.2 79 (28 * (S - 1 - i) + k)
theorem m_rem_66 {τ : jT} {S : Nat} (hS : S ≤ 12) (h : τ.1 4189 = nI S) : ∃ τ', f_X11_remember_66 τ = some (0, τ') ∧ mRemd 66 S τ τ' := by
  by_cases h12 : S = 12
  · subst h12
    have key : ∀ (m k f : Nat), k + m = 308 → m < f → f_X11_remember_66_b11 f (nI k) (shT τ k) = f_X11_remember_66_b49 (gs (shT τ 308) 4189 (nI 11)) := by
      intro m
      induction m with
      | zero =>
        intro k f hk hf
        obtain ⟨f, rfl⟩ : ∃ g, f = g + 1 := ⟨f - 1, by omega⟩
        have : k = 308 := by omega
        subst this
        rw [f_X11_remember_66_b11, if_pos (by decide)]
        have e : (shT τ 308).1 4189 - 1 = nI 11 := by
          show τ.1 4189 - 1 = nI 11
          rw [h]; rfl
        rw [e]
      | succ m ih =>
        intro k f hk hf
        obtain ⟨f, rfl⟩ : ∃ g, f = g + 1 := ⟨f - 1, by omega⟩
        have e28 : nI k + 28 = nI (k + 28) := ja_add k 28
        rw [f_X11_remember_66_b11, if_neg (show ¬ (308 : Int32) ≤ nI k from nI_ge (b := 308) (by omega) (by omega)), e28, if_pos (ja_in (by omega) (by omega)), if_pos (ja_in (by omega) (by omega)), nI_clamp (by omega), nI_clamp (by omega), shT_s, ← nI_succ]
        exact ih (k + 1) f (by omega) (by omega)
    have k0 := key 308 0 1000 (by omega) (by omega)
    rw [shT_0] at k0
    have hl := m_lay_66_79 (gs (shT τ 308) 4189 (nI 11)) (a := 308) (by omega)
    refine ⟨gs (lyT (gs (shT τ 308) 4189 (nI 11)) 66 79 308 28) 4189 (nI 12), ?_, rfl, fun i hi => ?_, fun o ho => ?_, fun k hk => ?_, fun i hi k hk => ?_⟩
    · unfold f_X11_remember_66
      rw [if_neg (by rw [h]; decide)]
      refine k0.trans ?_
      unfold f_X11_remember_66_b49
      have e : (28 : Int32) * (gs (shT τ 308) 4189 (nI 11)).1 4189 = nI 308 := rfl
      rw [e, hl]
      rfl
    · show (if i = 4189 then _ else if i = 4189 then _ else τ.1 i) = _
      rw [if_neg hi, if_neg hi]
    · show (lyT (gs (shT τ 308) 4189 (nI 11)) 66 79 308 28).2 o = _
      rw [lyT_ne _ ho]
      exact shT_ne τ ho
    · show (lyT (gs (shT τ 308) 4189 (nI 11)) 66 79 308 28).2 79 (308 + k) = _
      rw [lyT_in _ (by omega) (by omega), Nat.add_sub_cancel_left]
      show (shT τ 308).2 66 k = _
      rw [shT_ne τ (by decide)]
    · have hi2 : i + 1 < 12 := hi
      have e1 : 28 * (min (12 + 1) 12 - 1 - (i + 1)) + k = 28 * (10 - i) + k := by
        have : min (12 + 1) 12 = 12 := rfl
        rw [this]; omega
      rw [e1]
      show (lyT (gs (shT τ 308) 4189 (nI 11)) 66 79 308 28).2 79 (28 * (10 - i) + k) = _
      rw [lyT_out _ (by omega)]
      show (shT τ 308).2 79 (28 * (10 - i) + k) = _
      rw [shT_in τ (by omega), show 28 * (10 - i) + k + 28 = 28 * (12 - 1 - i) + k by omega]
  · have hl := m_lay_66_79 τ (a := 28 * S) (by omega)
    have hm : min (S + 1) 12 = S + 1 := by omega
    refine ⟨gs (lyT τ 66 79 (28 * S) 28) 4189 (nI (S + 1)), ?_, by rw [hm]; rfl, fun i hi => ?_, fun o ho => ?_, fun k hk => ?_, fun i hi k hk => ?_⟩
    · unfold f_X11_remember_66
      rw [if_pos (by rw [h]; exact fun q => h12 ((ja_eq (b := 12) (by omega) (by omega)).mp q))]
      unfold f_X11_remember_66_b49
      have e : (28 : Int32) * τ.1 4189 = nI (28 * S) := by
        rw [h, show (28 : Int32) = nI 28 from rfl, pk_mul]
      rw [e, hl]
      simp only [Option.bind_some]
      have e2 : (lyT τ 66 79 (28 * S) 28).1 4189 + 1 = nI (S + 1) := by
        show τ.1 4189 + 1 = _
        rw [h, nI_succ]
      rw [e2]
    · show (if i = 4189 then _ else τ.1 i) = _
      rw [if_neg hi]
    · exact lyT_ne τ ho
    · rw [hm]
      show (lyT τ 66 79 (28 * S) 28).2 79 (28 * S + k) = _
      rw [lyT_in _ (by omega) (by omega), Nat.add_sub_cancel_left]
    · rw [hm] at hi ⊢
      rw [show 28 * (S + 1 - 1 - (i + 1)) + k = 28 * (S - 1 - i) + k by omega]
      exact lyT_out τ (by omega)
theorem m_rem_80 {τ : jT} {S : Nat} (hS : S ≤ 12) (h : τ.1 4189 = nI S) : ∃ τ', f_X11_remember_80 τ = some (0, τ') ∧ mRemd 80 S τ τ' := by
  by_cases h12 : S = 12
  · subst h12
    have key : ∀ (m k f : Nat), k + m = 308 → m < f → f_X11_remember_80_b11 f (nI k) (shT τ k) = f_X11_remember_80_b49 (gs (shT τ 308) 4189 (nI 11)) := by
      intro m
      induction m with
      | zero =>
        intro k f hk hf
        obtain ⟨f, rfl⟩ : ∃ g, f = g + 1 := ⟨f - 1, by omega⟩
        have : k = 308 := by omega
        subst this
        rw [f_X11_remember_80_b11, if_pos (by decide)]
        have e : (shT τ 308).1 4189 - 1 = nI 11 := by
          show τ.1 4189 - 1 = nI 11
          rw [h]; rfl
        rw [e]
      | succ m ih =>
        intro k f hk hf
        obtain ⟨f, rfl⟩ : ∃ g, f = g + 1 := ⟨f - 1, by omega⟩
        have e28 : nI k + 28 = nI (k + 28) := ja_add k 28
        rw [f_X11_remember_80_b11, if_neg (show ¬ (308 : Int32) ≤ nI k from nI_ge (b := 308) (by omega) (by omega)), e28, if_pos (ja_in (by omega) (by omega)), if_pos (ja_in (by omega) (by omega)), nI_clamp (by omega), nI_clamp (by omega), shT_s, ← nI_succ]
        exact ih (k + 1) f (by omega) (by omega)
    have k0 := key 308 0 1000 (by omega) (by omega)
    rw [shT_0] at k0
    have hl := m_lay_80_79 (gs (shT τ 308) 4189 (nI 11)) (a := 308) (by omega)
    refine ⟨gs (lyT (gs (shT τ 308) 4189 (nI 11)) 80 79 308 28) 4189 (nI 12), ?_, rfl, fun i hi => ?_, fun o ho => ?_, fun k hk => ?_, fun i hi k hk => ?_⟩
    · unfold f_X11_remember_80
      rw [if_neg (by rw [h]; decide)]
      refine k0.trans ?_
      unfold f_X11_remember_80_b49
      have e : (28 : Int32) * (gs (shT τ 308) 4189 (nI 11)).1 4189 = nI 308 := rfl
      rw [e, hl]
      rfl
    · show (if i = 4189 then _ else if i = 4189 then _ else τ.1 i) = _
      rw [if_neg hi, if_neg hi]
    · show (lyT (gs (shT τ 308) 4189 (nI 11)) 80 79 308 28).2 o = _
      rw [lyT_ne _ ho]
      exact shT_ne τ ho
    · show (lyT (gs (shT τ 308) 4189 (nI 11)) 80 79 308 28).2 79 (308 + k) = _
      rw [lyT_in _ (by omega) (by omega), Nat.add_sub_cancel_left]
      show (shT τ 308).2 80 k = _
      rw [shT_ne τ (by decide)]
    · have hi2 : i + 1 < 12 := hi
      have e1 : 28 * (min (12 + 1) 12 - 1 - (i + 1)) + k = 28 * (10 - i) + k := by
        have : min (12 + 1) 12 = 12 := rfl
        rw [this]; omega
      rw [e1]
      show (lyT (gs (shT τ 308) 4189 (nI 11)) 80 79 308 28).2 79 (28 * (10 - i) + k) = _
      rw [lyT_out _ (by omega)]
      show (shT τ 308).2 79 (28 * (10 - i) + k) = _
      rw [shT_in τ (by omega), show 28 * (10 - i) + k + 28 = 28 * (12 - 1 - i) + k by omega]
  · have hl := m_lay_80_79 τ (a := 28 * S) (by omega)
    have hm : min (S + 1) 12 = S + 1 := by omega
    refine ⟨gs (lyT τ 80 79 (28 * S) 28) 4189 (nI (S + 1)), ?_, by rw [hm]; rfl, fun i hi => ?_, fun o ho => ?_, fun k hk => ?_, fun i hi k hk => ?_⟩
    · unfold f_X11_remember_80
      rw [if_pos (by rw [h]; exact fun q => h12 ((ja_eq (b := 12) (by omega) (by omega)).mp q))]
      unfold f_X11_remember_80_b49
      have e : (28 : Int32) * τ.1 4189 = nI (28 * S) := by
        rw [h, show (28 : Int32) = nI 28 from rfl, pk_mul]
      rw [e, hl]
      simp only [Option.bind_some]
      have e2 : (lyT τ 80 79 (28 * S) 28).1 4189 + 1 = nI (S + 1) := by
        show τ.1 4189 + 1 = _
        rw [h, nI_succ]
      rw [e2]
    · show (if i = 4189 then _ else τ.1 i) = _
      rw [if_neg hi]
    · exact lyT_ne τ ho
    · rw [hm]
      show (lyT τ 80 79 (28 * S) 28).2 79 (28 * S + k) = _
      rw [lyT_in _ (by omega) (by omega), Nat.add_sub_cancel_left]
    · rw [hm] at hi ⊢
      rw [show 28 * (S + 1 - 1 - (i + 1)) + k = 28 * (S - 1 - i) + k by omega]
      exact lyT_out τ (by omega)
def cPush (σ : jT) (N S : Nat) : jT := gs (gs σ 898 (nI ((N + 1) % 13))) 899 (nI (min (S + 1) 12))
theorem c_push {σ : jT} {N S : Nat} (hN : N < 13) (hS : S ≤ 12) (h1 : σ.1 898 = nI N) (h2 : σ.1 899 = nI S) : f_X2_push σ = some (0, cPush σ N S) := by
  unfold f_X2_push cPush
  rw [h1, h2]
  have e1 : (nI N + 1) - (nI N + 1) / 13 * 13 = nI ((N + 1) % 13) := by
    rw [← nI_succ]
    exact pk_rem (d := 13) (by omega) (by omega) (by omega)
  have e2 : jx_min (nI S + 1) 12 = nI (min (S + 1) 12) := by
    rw [← nI_succ]
    unfold jx_min
    by_cases h : 12 < S + 1
    · rw [if_pos (show (12 : Int32) < nI (S + 1) from nI_lt (a := 12) h (by omega)), show min (S + 1) 12 = 12 by omega]; rfl
    · rw [if_neg (show ¬ (12 : Int32) < nI (S + 1) from nI_nlt (b := S + 1) (a := 12) (by omega) (by omega)), show min (S + 1) 12 = S + 1 by omega]
  rw [e1, e2]
/-- an act was done: what was noted can be undone -/
theorem act_push {n P Q N S src : Nat} {σ τ σ2 τ1 τ2 : jT} (h : rAll n P Q σ τ) (hN : N < 13) (hS : S ≤ 12) (h1 : σ.1 898 = nI N) (h2 : σ.1 899 = nI S) (hsrc : ∀ k, k < 28 → τ.2 src k = τ.2 66 k) (hm : mRemd src S τ τ1) (c : coreCn σ2 = coreCn (cNote σ N)) (m : coreMn τ2 = coreMn τ1) (hn : rN P Q σ2 τ2) : rAll n P Q (cPush σ2 N S) τ2 := by
  have hno := rAll_note h hN h1 h2 hS
  obtain ⟨-, -, ⟨hQ, -⟩, ⟨hSt, -⟩, -, ⟨S', N', hS', hN', e1, e2, e3, e4⟩, -⟩ := id h
  have hSS : S' = S := (ja_eq (by omega) (by omega)).mp (e1.symm.trans h2)
  have hNN : N' = N := (ja_eq (by omega) (by omega)).mp (e3.symm.trans h1)
  subst hSS hNN
  obtain ⟨m1, m2, m3, m4, m5⟩ := hm
  simp only [coreCn, Prod.mk.injEq] at c
  simp only [coreMn, Prod.mk.injEq] at m
  obtain ⟨⟨a1, a2⟩, ⟨a3, a4, a5, a6⟩, ⟨a7, a8⟩, ⟨a10, a11⟩, ⟨a12, a13, a14⟩, ⟨a15, a16⟩, ⟨a17, a18⟩, ⟨a19, a20⟩⟩ := c
  obtain ⟨⟨b1, b2⟩, ⟨b3, b4, b5, b6⟩, ⟨b7, b8, b9⟩, ⟨b11, b12⟩, ⟨b13, b14⟩, ⟨b15, b16, b17, b18⟩, ⟨b19, b20⟩, ⟨b21, b22⟩⟩ := m
  rw [m2 _ (by decide)] at b1 b3 b4 b7 b12 b15 b19 b21
  rw [m3 _ (by decide)] at b2 b5 b6 b8 b9 b11 b16 b17 b18 b20 b22
  obtain ⟨g1, g2, g3, -, g5, -, g7, g8, g9⟩ := hno
  refine ⟨?_, ?_, ?_, hn, ?_, ?_, ?_, ?_, ?_⟩
  · show n < 5000 → rT σ2 τ2
    unfold rT at g1 ⊢
    rw [a1, a2, b1, b2]; exact g1
  · show rL P σ2 τ2
    unfold rL at g2 ⊢
    rw [a3, a4, a5, a6, b3, b4, b5, b6]; exact g2
  · show rR Q σ2 τ2
    unfold rR at g3 ⊢
    rw [a7, a8, b7, b8]; exact g3
  · show rU σ2 τ2
    unfold rU at g5 ⊢
    rw [a10, a11, b11, b12]; exact g5
  · refine ⟨min (S' + 1) 12, (N' + 1) % 13, by omega, by omega, rfl, by rw [b13, m1], rfl, fun i hi => ?_⟩
    show rS P Q (τ2.2 70) (pastC σ2 (((N' + 1) % 13 + 12 - i) % 13)) _
    rw [a14, b9, b14]
    cases i with
    | zero =>
      have e : ((N' + 1) % 13 + 12 - 0) % 13 = N' := by omega
      rw [e]
      refine rS_congr hQ hSt (fun k hk => cNote_n σ hN hk) (fun k hk => ?_)
      show τ1.2 79 (28 * (min (S' + 1) 12 - 1 - 0) + k) = _
      rw [Nat.sub_zero, m4 k hk, hsrc k hk]
    | succ i =>
      have e : ((N' + 1) % 13 + 12 - (i + 1)) % 13 = (N' + 12 - i) % 13 := by omega
      rw [e, cNote_p σ (by omega) (by omega)]
      refine rS_congr hQ (e4 i (by omega)) (fun k hk => rfl) (fun k hk => ?_)
      exact m5 i hi k hk
  · show rK n P Q σ2 τ2
    unfold rK at g7 ⊢
    rw [a15, a16, b15, b16, b17, b18, b9]; exact g7
  · show rW σ2 τ2
    unfold rW at g8 ⊢
    rw [a17, a18, b19, b20]; exact g8
  · show rP P σ2 τ2
    unfold rP at g9 ⊢
    rw [a19, a20, b21, b22]; exact g9
