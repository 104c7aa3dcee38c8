/-! ===== riders are read, on both sides ===== -/
def rSt (L : Nat) (d : Nat → Nat) (P : Nat) : Nat → Nat
  | 0 => 0
  | p + 1 => rEnd L 76 d P (rSt L d P p) + 1
def kG (τ τ' : jT) : Prop := (∀ z, z ≠ 4176 → z ≠ 4177 → τ'.1 z = τ.1 z) ∧ ∀ o, o ≠ 76 → τ'.2 o = τ.2 o
theorem kG_trans {a b c : jT} (h1 : kG a b) (h2 : kG b c) : kG a c := ⟨fun z a1 a2 => (h2.1 z a1 a2).trans (h1.1 z a1 a2), fun o a1 => (h2.2 o a1).trans (h1.2 o a1)⟩
theorem kG_F {n : Nat} {a b : jT} (h : kF n a b) : kG a b := ⟨h.1, h.2.1⟩
theorem kG_g {τ : jT} {z : Nat} {v : Int32} (hz : z = 4176 ∨ z = 4177) : kG τ (gs τ z v) := kG_F (kF_g (n := 0) hz)
theorem r_bad {e k : Nat} {τ : jT} (he : e < 2 ^ 31) (hw : τ.1 4177 = nI e) : f_X11_riders_b91 (nI k) τ = some (-1 - nI e, τ) := by
  have hn : ¬ τ.1 4177 = -1 := by rw [hw]; exact ja_neg1 he
  have h110 : f_X11_riders_b110 (nI k) τ = some (-1 - nI e, τ) := by
    unfold f_X11_riders_b110
    rw [m_fine0 hn]
    simp only [bnd]
    rw [iNT, hw]
  unfold f_X11_riders_b91
  rw [m_fault0 hn]
  simp only [bnd]
  rw [h110]
  split <;> rfl
/-- the first n lines, as the model noted them -/
def rkI (L : Nat) (d : Nat → Nat) (P n : Nat) (τ : jT) : Prop := ∀ p, p < n → rOk L 76 d P (rSt L d P p) ∧ τ.2 76 (11 * p) = nI (nV L 76 d (rSt L d P p)) ∧ ∀ k, k < P → τ.2 76 (11 * p + 1 + k) = nI (d (rSt L d P p + nD L 76 d (rSt L d P p) + 1 + k) - 48)
theorem rk_add {L P n : Nat} {d : Nat → Nat} {τ τ' : jT} (hP : P ≤ 10) (h : rkI L d P n τ) (hk : kF n τ τ') (h1 : rOk L 76 d P (rSt L d P n)) (h2 : τ'.2 76 (11 * n) = nI (nV L 76 d (rSt L d P n))) (h3 : ∀ k, k < P → τ'.2 76 (11 * n + 1 + k) = nI (d (rSt L d P n + nD L 76 d (rSt L d P n) + 1 + k) - 48)) : rkI L d P (n + 1) τ' := by
  intro p hp
  by_cases z : p = n
  · rw [z]; exact ⟨h1, h2, h3⟩
  · obtain ⟨a1, a2, a3⟩ := h p (by omega)
    refine ⟨a1, by rw [hk.2.2 _ (by omega)]; exact a2, fun k hk2 => ?_⟩
    rw [hk.2.2 _ (by omega)]; exact a3 k hk2
theorem rOk_end {L P i : Nat} {d : Nat → Nat} (h : rOk L 76 d P i) : rEnd L 76 d P i ≤ L ∧ rEnd L 76 d P i ≤ 76 := by
  obtain ⟨_, _, h3, h4⟩ := h
  unfold rEnd
  have a1 := h3.1
  have a2 := h3.2.1
  by_cases z : P = 0
  · omega
  · have b := h4 (P - 1) (by omega)
    have b1 := b.1
    have b2 := b.2.1
    omega
theorem rp_parse {L P Q : Nat} {d : Nat → Nat} {σ : jT} (h : bX L 76 d σ) (hP : P ≤ 10) (hQ : Q ≤ 6) : ∀ (m n fu fu' : Nat) (τ : jT), n + m = 6 - Q → m < fu → m + 1 < fu' → rSt L d P n ≤ L → rSt L d P n ≤ 76 → τ.1 4161 = nI P → τ.1 4165 = nI Q → mX L 76 (rSt L d P n) d τ → rkI L d P n τ → (∀ p, p < n → sIn L 76 d (rEnd L 76 d P (rSt L d P p)) 59 59) →
    ∃ v j, f_X1_inRiders_1_b8 fu (nI P) (nI (6 - Q)) (nI n) (gs σ 67 (nI (rSt L d P n))) = some (v, gs σ 67 j) ∧
      ((∃ e τ', e ≤ 80 ∧ v = nI e ∧ f_X11_riders_b37 fu' (nI n) 1 τ = some (-1 - nI e, τ') ∧ kG τ τ') ∨
       (v = -1 ∧ ∃ N τ', Q + N < 6 ∧ rEnd L 76 d P (rSt L d P N) = L ∧ (∀ p, p < N → sIn L 76 d (rEnd L 76 d P (rSt L d P p)) 59 59) ∧ rkI L d P (N + 1) τ' ∧ τ'.1 4177 = -1 ∧ f_X11_riders_b37 fu' (nI n) 1 τ = f_X11_riders_b110 (nI (N + 1)) τ' ∧ kG τ τ')) := by
  have hL80 := h.1
  intro m
  induction m with
  | zero =>
    intro n fu fu' τ hn hf hf' hl hl2 p2 q2 hm hok h59
    obtain ⟨fu, rfl⟩ : ∃ f', fu = f' + 1 := ⟨fu - 1, by omega⟩
    obtain ⟨fu', rfl⟩ : ∃ f', fu' = f' + 1 := ⟨fu' - 1, by omega⟩
    obtain ⟨fu', rfl⟩ : ∃ f', fu' = f' + 1 := ⟨fu' - 1, by omega⟩
    rw [f_X1_inRiders_1_b8, if_pos ((ja_le (by omega) (by omega)).2 (by omega)), c_pos (bX_at h (by omega))]
    simp only [bnd]
    refine ⟨_, _, rfl, Or.inl ⟨rSt L d P n, gs τ 4177 (nI (rSt L d P n)), by omega, rfl, ?_, kG_g (Or.inr rfl)⟩⟩
    obtain ⟨-, -, -, e1, e2, e3, ew, -⟩ := id hm
    rw [f_X11_riders_b37, if_neg (show ¬ (1 : Int32) = 0 by decide), m_fine ew]
    simp only [bnd]
    have e6 : nI Q + nI n = 6 := by rw [ja_add, show Q + n = 6 by omega]; rfl
    rw [if_neg (show ¬ (1 : Int32) = 0 by decide), q2, e6, if_neg (fun q => q rfl), m_fault ew, e3]
    simp only [bnd]
    unfold f_X11_riders_b78
    rw [m_passes0 (show ¬ (gs τ 4177 (nI (rSt L d P n))).1 4177 = -1 from ja_neg1 (by omega))]
    simp only [bnd]
    rw [nS, f_X11_riders_b37, if_pos rfl]
    exact r_bad (by omega) rfl
  | succ m ih =>
    intro n fu fu' τ hn hf hf' hl hl2 p2 q2 hm hok h59
    obtain ⟨fu, rfl⟩ : ∃ f', fu = f' + 1 := ⟨fu - 1, by omega⟩
    obtain ⟨fu', rfl⟩ : ∃ f', fu' = f' + 1 := ⟨fu' - 1, by omega⟩
    obtain ⟨-, -, -, e1, e2, e3, ew, -⟩ := id hm
    obtain ⟨v, j, τ1, f1, f2, f3, f4⟩ := rl_both (n := n) h hP (show n < 6 by omega) p2 hl hl2 hm
    rw [f_X1_inRiders_1_b8, if_neg (fun c => by have := (ja_le (by omega) (by omega)).1 c; omega), f1]
    simp only [bnd]
    have eb : f_X11_riders_b37 (fu' + 1) (nI n) 1 τ = f_X11_riders_b78 (f_X11_riders_b37 fu') (nI n) τ1 := by
      have ix : (11 : Int32) * nI n = nI (11 * n) := by
        have : ∀ n, n < 6 → (11 : Int32) * nI n = nI (11 * n) := by decide
        exact this n (by omega)
      rw [f_X11_riders_b37, if_neg (show ¬ (1 : Int32) = 0 by decide), m_fine ew]
      simp only [bnd]
      rw [if_neg (show ¬ (1 : Int32) = 0 by decide), q2, ja_add, if_pos (show ¬ nI (Q + n) = 6 from fun q => by have := (ja_eq (b := 6) (by omega) (by omega)).1 q; omega), ix, f2]
      simp only [bnd]
    rw [eb]
    obtain ⟨fu', rfl⟩ : ∃ f', fu' = f' + 1 := ⟨fu' - 1, by omega⟩
    unfold f_X11_riders_b78
    rcases f4 with ⟨g1, rfl, rfl, g2, g3, g4⟩ | ⟨e, he, rfl, hw⟩
    · obtain ⟨hE1, hE2⟩ := rOk_end g1
      rw [if_pos rfl]
      have et := b_take (a := 59) h (show rEnd L 76 d P (rSt L d P n) ≤ 80 by omega) (by omega)
      have et' : f_X9_take 59 (gs σ 67 (nI (rEnd L 76 d P (rSt L d P n)))) = _ := et
      have ep := m_passes (a := 59) g2 (by omega)
      have ep' : f_X11_passes_T 59 τ1 = _ := ep
      have hadd : rkI L d P (n + 1) τ1 := rk_add hP hok f3 g1 g3 g4
      rw [et', ep']
      by_cases c : sIn L 76 d (rEnd L 76 d P (rSt L d P n)) 59 59
      · rw [if_pos c, if_pos c]
        simp only [bnd]
        rw [if_pos (show ¬ (1 : Int32) = 0 by decide), nS]
        have c1 := c.1
        have c2 := c.2.1
        have hS : rSt L d P (n + 1) = rEnd L 76 d P (rSt L d P n) + 1 := rfl
        obtain ⟨v, j, k1, k2⟩ := ih (n + 1) fu (fu' + 1) (gs τ1 4176 (nI (rEnd L 76 d P (rSt L d P n) + 1))) (by omega) (by omega) (by omega) (by omega) (by omega) ((f3.1 4161 (by decide) (by decide)).trans p2) ((f3.1 4165 (by decide) (by decide)).trans q2) (by rw [hS]; exact mX_1 g2 (by omega)) hadd (fun p hp => by
          by_cases z : p = n
          · rw [z]; exact c
          · exact h59 p (by omega))
        rw [hS] at k1
        refine ⟨v, j, k1, ?_⟩
        have hfr : kG τ (gs τ1 4176 (nI (rEnd L 76 d P (rSt L d P n) + 1))) := kG_trans (kG_F f3) (kG_g (Or.inl rfl))
        rcases k2 with ⟨e, τ', b1, b2, b3, b4⟩ | ⟨b0, N, τ', b1, b2, b3, b4, b5, b6, b7⟩
        · exact Or.inl ⟨e, τ', b1, b2, b3, kG_trans hfr b4⟩
        · exact Or.inr ⟨b0, N, τ', b1, b2, b3, b4, b5, b6, kG_trans hfr b7⟩
      · rw [if_neg c, if_neg c]
        simp only [bnd]
        rw [iNT, c_rest (bX_at h (by omega)) hE1 hE2]
        simp only [bnd]
        rw [nS, f_X11_riders_b37, if_pos rfl]
        obtain ⟨-, -, -, y1, y2, y3, yw, -⟩ := id g2
        refine ⟨_, _, rfl, ?_⟩
        by_cases z : rEnd L 76 d P (rSt L d P n) = L
        · rw [if_pos z]
          refine Or.inr ⟨rfl, n, τ1, by omega, z, h59, hadd, yw, ?_, kG_F f3⟩
          unfold f_X11_riders_b91
          rw [y1, y3, if_pos ((ja_le (by omega) (by omega)).2 (by omega))]
        · rw [if_neg z]
          refine Or.inl ⟨_, gs τ1 4177 (nI (rEnd L 76 d P (rSt L d P n))), by omega, rfl, ?_, kG_trans (kG_F f3) (kG_g (Or.inr rfl))⟩
          have hb := r_bad (e := rEnd L 76 d P (rSt L d P n)) (k := n + 1) (τ := gs τ1 4177 (nI (rEnd L 76 d P (rSt L d P n)))) (by omega) rfl
          unfold f_X11_riders_b91 at hb ⊢
          rw [show (gs τ1 4177 (nI (rEnd L 76 d P (rSt L d P n)))).1 4174 = τ1.1 4174 from rfl, show (gs τ1 4177 (nI (rEnd L 76 d P (rSt L d P n)))).1 4176 = τ1.1 4176 from rfl, y1, y3, if_neg (show ¬ nI L ≤ nI (rEnd L 76 d P (rSt L d P n)) from fun c => by have := (ja_le (by omega) (by omega)).1 c; omega), m_fault0 (show ¬ (gs τ1 4177 (nI (rEnd L 76 d P (rSt L d P n)))).1 4177 = -1 from ja_neg1 (by omega))] at hb
          rw [y1, y3, if_neg (show ¬ nI L ≤ nI (rEnd L 76 d P (rSt L d P n)) from fun c => by have := (ja_le (by omega) (by omega)).1 c; omega), m_fault yw]
          exact hb
    · rw [if_neg (ja_neg1 (by omega)), m_passes0 (show ¬ τ1.1 4177 = -1 by rw [hw]; exact ja_neg1 (by omega))]
      simp only [bnd]
      rw [nS, f_X11_riders_b37, if_pos rfl]
      exact ⟨_, _, rfl, Or.inl ⟨e, τ1, he, rfl, r_bad (by omega) hw, kG_F f3⟩⟩
/-! a map of views, as one number -/
def sMap (f : Nat → Nat) : Nat → Nat
  | 0 => 0
  | k + 1 => sMap f k + f k * 4 ^ k
theorem sMap_lt {f : Nat → Nat} (k : Nat) (h : ∀ j, j < k → f j < 4) : sMap f k < 4 ^ k := by
  induction k with
  | zero => exact Nat.one_pos
  | succ k ih =>
    have h1 := ih (fun j hj => h j (by omega))
    have h2 := h k (by omega)
    unfold sMap
    rw [Nat.pow_succ]
    have h3 : f k * 4 ^ k ≤ 3 * 4 ^ k := Nat.mul_le_mul_right _ (by omega)
    omega
theorem sMap_dig {f : Nat → Nat} (k : Nat) (h : ∀ j, j < k → f j < 4) : ∀ q, q < k → sMap f k / 4 ^ q % 4 = f q := by
  induction k with
  | zero => intro q hq; omega
  | succ k ih =>
    intro q hq
    have h1 := sMap_lt k (fun j hj => h j (by omega))
    unfold sMap
    by_cases z : q = k
    · subst z
      rw [Nat.add_mul_div_right _ _ (Nat.pow_pos (by omega)), Nat.div_eq_of_lt h1, Nat.zero_add, Nat.mod_eq_of_lt (h q (by omega))]
    · obtain ⟨e, rfl⟩ : ∃ e, k = q + (e + 1) := ⟨k - q - 1, by omega⟩
      have e4 : f (q + (e + 1)) * 4 ^ (q + (e + 1)) = (f (q + (e + 1)) * 4 ^ e * 4) * 4 ^ q := by
        rw [Nat.pow_add, Nat.pow_succ]
        simp only [Nat.mul_assoc, Nat.mul_comm, Nat.mul_left_comm]
      rw [e4, Nat.add_mul_div_right _ _ (Nat.pow_pos (by omega)), Nat.add_mul_mod_self_right]
      exact ih (fun j hj => h j (by omega)) q (by omega)
theorem map_or {M v k : Nat} (hM : M < 4 ^ k) (hv : v < 4) (hk : k < 10) : nI M ||| (nI v <<< ((2 * nI k) &&& 31)) = nI (M + v * 4 ^ k) := by
  have h1 : ∀ v, v < 4 → ∀ k, k < 10 → nI v <<< ((2 * nI k) &&& 31) = nI (v * 4 ^ k) := by decide +kernel
  rw [h1 v hv k hk]
  have e : M + v * 4 ^ k = M ||| (v * 4 ^ k) := by
    have h2 : (4 : Nat) ^ k = 2 ^ (2 * k) := by rw [Nat.pow_mul]
    have h3 := Nat.shiftLeft_add_eq_or_of_lt (b := M) (i := 2 * k) (by rw [← h2]; exact hM) v
    rw [Nat.shiftLeft_eq, ← h2] at h3
    rw [Nat.add_comm, h3, Nat.or_comm]
  rw [e]
  refine bv_i ?_
  rw [Int32.toBitVec_or, nI_bv, nI_bv, nI_bv]
  exact BitVec.eq_of_getLsbD_eq (fun i hi => by simp [Nat.testBit_or, hi])
