/-! ===== the class lays THE ROADS ===== -/
def lyF (σ σ' : jT) : Prop := (∀ i, i ≠ 195 → i ≠ 196 → i ≠ 197 → σ'.1 i = σ.1 i) ∧ ∀ o, o ≠ 4 → o ≠ 5 → σ'.2 o = σ.2 o
theorem lyF_trans {a b c : jT} (h1 : lyF a b) (h2 : lyF b c) : lyF a c := ⟨fun i a1 a2 a3 => (h2.1 i a1 a2 a3).trans (h1.1 i a1 a2 a3), fun o a1 a2 => (h2.2 o a1 a2).trans (h1.2 o a1 a2)⟩
/-- q lines are laid; places told, INNS of those before r -/
def lyI (L : Nat) (d : Nat → Nat) (P q r : Nat) (σ : jT) : Prop := σ.1 195 = nI P ∧ σ.1 197 = 0 ∧ rep (σ.1 196) (fun p => p < r ∧ lH L 76 d (lS L 76 d p) = 1) ∧ ∀ p, p < q → σ.2 4 p = nI (lA L 76 d (lS L 76 d p)) ∧ ∀ k, k < lA L 76 d (lS L 76 d p) → σ.2 5 (3 * p + k) = nI (d (lS L 76 d p + k) - 97)
theorem tX_F {L : Nat} {d : Nat → Nat} {σ σ' : jT} (h : tX L d σ) (hf : lyF σ σ') : tX L d σ' := by
  unfold tX
  rw [hf.1 65 (by decide) (by decide) (by decide), hf.2 2 (by decide) (by decide)]; exact h
theorem ly_let {L p : Nat} {d : Nat → Nat} {σ0 : jT} (h0 : tX L d σ0) (hp : p < 10) : ∀ (m k : Nat) (σ : jT), k + m = lA L 76 d (lS L 76 d p) → lyF σ0 σ → lyI L d (p + 1) p p σ → σ.2 4 p = nI k → (∀ k', k' < k → σ.2 5 (3 * p + k') = nI (d (lS L 76 d p + k') - 97)) →
    ∃ σ', (∀ fu, f_X3_lay_1_b21 (m + fu) (nI (lS L 76 d p + k)) σ = f_X3_lay_1_b21 fu (nI (lS L 76 d p + lA L 76 d (lS L 76 d p))) σ') ∧ lyF σ0 σ' ∧ lyI L d (p + 1) (p + 1) p σ' := by
  have h3 := (lA_le L 76 d (lS L 76 d p)).1
  have h80 := h0.1
  intro m
  induction m with
  | zero =>
    intro k σ hk hf hi h4 h5
    refine ⟨σ, fun fu => by rw [Nat.zero_add, show k = lA L 76 d (lS L 76 d p) by omega], hf, hi.1, hi.2.1, hi.2.2.1, fun q hq => ?_⟩
    by_cases z : q = p
    · subst z
      rw [← show k = lA L 76 d (lS L 76 d q) by omega]
      exact ⟨h4, h5⟩
    · exact hi.2.2.2 q (by omega)
  | succ m ih =>
    intro k σ hk hf hi h4 h5
    obtain ⟨a1, a2, a3⟩ := ln_let (L := L) (M := 76) (d := d) (i := lS L 76 d p) (k := k) (by omega)
    have hx := tX_F h0 hf
    obtain ⟨i1, i2, i3, i4⟩ := id hi
    have ix : nI p * 3 + nI k = nI (3 * p + k) := by
      have : ∀ p, p < 10 → nI p * 3 = nI (3 * p) := by decide
      rw [this p hp]; exact ja_add _ _
    have e97 : nI (d (lS L 76 d p + k)) - 97 = nI (d (lS L 76 d p + k) - 97) := ja_sub (s := 97) a1
    have ew : f_X3_addWay (nI (d (lS L 76 d p + k)) - 97) σ = some (0, gA (gA σ 5 (3 * p + k) (nI (d (lS L 76 d p + k) - 97))) 4 p (nI (k + 1))) := by
      unfold f_X3_addWay
      rw [i1, nI_pred, if_neg (nI_pos (by omega)), if_pos (ja_in (n := 10) (by omega) (by omega)), nI_clamp (by omega), h4, if_neg (show ¬ (3 : Int32) ≤ nI k from nI_ge (b := 3) (by omega) (by omega)), ix, if_pos (ja_in (n := 30) (by omega) (by omega)), nI_clamp (by omega), e97, nS]
    have hfr : lyF σ (gA (gA σ 5 (3 * p + k) (nI (d (lS L 76 d p + k) - 97))) 4 p (nI (k + 1))) := ⟨fun _ _ _ _ => rfl, fun o o1 o2 => funext fun j => by rw [ja_gA, if_neg (fun q => o1 q.1), ja_gA, if_neg (fun q => o2 q.1)]⟩
    have r4 : ∀ j, (gA (gA σ 5 (3 * p + k) (nI (d (lS L 76 d p + k) - 97))) 4 p (nI (k + 1))).2 4 j = if j = p then nI (k + 1) else σ.2 4 j := fun j => by
      rw [ja_gA]
      by_cases z : j = p
      · rw [if_pos ⟨rfl, z⟩, if_pos z]
      · rw [if_neg (fun q => z q.2), if_neg z, ja_gA, if_neg (fun q => absurd q.1 (by decide))]
    have r5 : ∀ j, (gA (gA σ 5 (3 * p + k) (nI (d (lS L 76 d p + k) - 97))) 4 p (nI (k + 1))).2 5 j = if j = 3 * p + k then nI (d (lS L 76 d p + k) - 97) else σ.2 5 j := fun j => by
      rw [ja_gA, if_neg (fun q => absurd q.1 (by decide)), ja_gA]
      by_cases z : j = 3 * p + k
      · rw [if_pos ⟨rfl, z⟩, if_pos z]
      · rw [if_neg (fun q => z q.2), if_neg z]
    obtain ⟨σ', e1, e2⟩ := ih (k + 1) _ (by omega) (lyF_trans hf hfr) ⟨i1, i2, i3, fun q hq => by
        obtain ⟨b1, b2⟩ := i4 q hq
        have hq3 := (lA_le L 76 d (lS L 76 d q)).1
        refine ⟨by rw [r4, if_neg (by omega)]; exact b1, fun k' hk' => by rw [r5, if_neg (by omega)]; exact b2 k' hk'⟩⟩ (by rw [r4, if_pos rfl]) (fun k' hk' => by
        rw [r5]
        by_cases z : k' = k
        · rw [if_pos (by omega), z]
        · rw [if_neg (by omega)]; exact h5 k' (by omega))
    refine ⟨σ', fun fu => ?_, e2⟩
    rw [show m + 1 + fu = (m + fu) + 1 by omega, f_X3_lay_1_b21, c_len hx]
    simp only [bnd]
    rw [if_neg (fun c => by have := (ja_le (by omega) (by omega)).1 c; omega), c_at hx a3]
    simp only [bnd]
    rw [if_pos (show ¬ nI (d (lS L 76 d p + k)) = 59 from fun q => by have := (ja_eq (b := 59) (by omega) (by omega)).1 q; omega), if_pos (show ¬ nI (d (lS L 76 d p + k)) = 33 from fun q => by have := (ja_eq (b := 33) (by omega) (by omega)).1 q; omega), if_neg (show ¬ nI (d (lS L 76 d p + k)) = 45 from fun q => by have := (ja_eq (b := 45) (by omega) (by omega)).1 q; omega)]
    rw [ew]
    simp only [bnd]
    unfold f_X3_lay_1_b88
    rw [nS]
    exact e1 fu
theorem ly_dash {L p : Nat} {d : Nat → Nat} {σ : jT} (h : tX L d σ) : ∀ fu, f_X3_lay_1_b21 ((lG L 76 d (lS L 76 d p) - lA L 76 d (lS L 76 d p)) + fu) (nI (lS L 76 d p + lA L 76 d (lS L 76 d p))) σ = f_X3_lay_1_b21 fu (nI (lS L 76 d p + lG L 76 d (lS L 76 d p))) σ := by
  intro fu
  have h80 := h.1
  have hA := lA_le L 76 d (lS L 76 d p)
  by_cases c : sIn L 76 d (lS L 76 d p) 45 45
  · have e1 : lA L 76 d (lS L 76 d p) = 0 := by unfold lA; rw [if_pos c]
    have e2 : lG L 76 d (lS L 76 d p) = 1 := by unfold lG; rw [if_pos c]
    obtain ⟨a1, a2⟩ := ln_dash (L := L) (M := 76) (d := d) (i := lS L 76 d p) (k := 0) (by omega) (by omega)
    rw [e1, e2, show 1 - 0 + fu = fu + 1 by omega, f_X3_lay_1_b21, c_len h]
    simp only [bnd]
    rw [if_neg (fun c => by have := (ja_le (by omega) (by omega)).1 c; omega), c_at h a2, a1]
    simp only [bnd]
    rw [if_pos (show ¬ nI 45 = 59 by decide), if_pos (show ¬ nI 45 = 33 by decide), if_pos (show nI 45 = 45 from rfl)]
    unfold f_X3_lay_1_b88
    rw [nS]
  · have e1 : lA L 76 d (lS L 76 d p) = lG L 76 d (lS L 76 d p) := by unfold lA lG; rw [if_neg c, if_neg c]
    rw [e1, Nat.sub_self, Nat.zero_add]
theorem ly_inn {L p : Nat} {d : Nat → Nat} {σ0 σ : jT} (h0 : tX L d σ0) (hp : p < 10) (hf : lyF σ0 σ) (hi : lyI L d (p + 1) (p + 1) p σ) : ∃ σ', (∀ fu, f_X3_lay_1_b21 (lH L 76 d (lS L 76 d p) + fu) (nI (lS L 76 d p + lG L 76 d (lS L 76 d p))) σ = f_X3_lay_1_b21 fu (nI (lEnd L 76 d (lS L 76 d p))) σ') ∧ lyF σ0 σ' ∧ lyI L d (p + 1) (p + 1) (p + 1) σ' := by
  have h80 := h0.1
  have hx := tX_F h0 hf
  obtain ⟨i1, i2, i3, i4⟩ := id hi
  rcases lH_le L 76 d (lS L 76 d p) with hh | hh
  · refine ⟨σ, fun fu => ?_, hf, i1, i2, rep_iff i3 (fun q => ⟨fun w => ⟨by omega, w.2⟩, fun w => ⟨?_, w.2⟩⟩), i4⟩
    · unfold lEnd
      rw [hh, Nat.zero_add]; rfl
    · by_cases z : q = p
      · rw [z] at w; have := w.2; omega
      · omega
  · obtain ⟨a1, a2⟩ := ln_inn (L := L) (M := 76) (d := d) (i := lS L 76 d p) hh
    refine ⟨gs σ 196 (σ.1 196 ||| (1 <<< (nI p &&& 31))), fun fu => ?_, lyF_trans hf ⟨fun i _ b _ => if_neg b, fun _ _ _ => rfl⟩, i1, i2, rep_iff (rep_or i3 (rep_bit hp)) (fun q => ⟨?_, ?_⟩), i4⟩
    · rw [hh, show 1 + fu = fu + 1 by omega, f_X3_lay_1_b21, c_len hx]
      simp only [bnd]
      rw [if_neg (fun c => by have := (ja_le (by omega) (by omega)).1 c; omega), c_at hx a2, a1]
      simp only [bnd]
      rw [if_pos (show ¬ nI 33 = 59 by decide), if_neg (show ¬ ¬ nI 33 = 33 from fun q => q rfl)]
      unfold f_X3_lay_1_b88
      rw [nS, i1, nI_pred]
      unfold lEnd
      rw [hh]
    · rintro (w | w)
      · exact ⟨by omega, w.2⟩
      · rw [w]; exact ⟨by omega, hh⟩
    · rintro ⟨w1, w2⟩
      by_cases z : q = p
      · exact Or.inr z
      · exact Or.inl ⟨by omega, w2⟩
theorem ly_line {L p : Nat} {d : Nat → Nat} {σ0 σ : jT} (h0 : tX L d σ0) (hp : p < 10) (hf : lyF σ0 σ) (hi : lyI L d (p + 1) p p σ) (h4 : σ.2 4 p = 0) : ∃ σ', (∀ fu, f_X3_lay_1_b21 ((lEnd L 76 d (lS L 76 d p) - lS L 76 d p) + fu) (nI (lS L 76 d p)) σ = f_X3_lay_1_b21 fu (nI (lEnd L 76 d (lS L 76 d p))) σ') ∧ lyF σ0 σ' ∧ lyI L d (p + 1) (p + 1) (p + 1) σ' := by
  have hA := lA_le L 76 d (lS L 76 d p)
  obtain ⟨σ1, e1, e2, e3⟩ := ly_let h0 hp (lA L 76 d (lS L 76 d p)) 0 σ (by omega) hf hi h4 (fun k' h => absurd h (Nat.not_lt_zero _))
  obtain ⟨σ2, g1, g2, g3⟩ := ly_inn h0 hp e2 e3
  refine ⟨σ2, fun fu => ?_, g2, g3⟩
  have hE : lEnd L 76 d (lS L 76 d p) = lS L 76 d p + lG L 76 d (lS L 76 d p) + lH L 76 d (lS L 76 d p) := rfl
  have a1 := e1 ((lG L 76 d (lS L 76 d p) - lA L 76 d (lS L 76 d p)) + (lH L 76 d (lS L 76 d p) + fu))
  rw [ly_dash (tX_F h0 e2), g1] at a1
  rw [show lEnd L 76 d (lS L 76 d p) - lS L 76 d p + fu = lA L 76 d (lS L 76 d p) + (lG L 76 d (lS L 76 d p) - lA L 76 d (lS L 76 d p) + (lH L 76 d (lS L 76 d p) + fu)) by omega]
  exact a1
theorem ly_lines {L N : Nat} {d : Nat → Nat} {σ0 σ : jT} (h0 : tX L d σ0) (hN : rdN L d N) (hf : lyF σ0 σ) (hi : lyI L d 1 0 0 σ) (h4 : σ.2 4 0 = 0) : ∀ p, p ≤ N → lS L 76 d p ≤ L ∧ ∃ σ', (∀ fu, f_X3_lay_1_b21 (lS L 76 d p + fu) 0 σ = f_X3_lay_1_b21 fu (nI (lS L 76 d p)) σ') ∧ lyF σ0 σ' ∧ lyI L d (p + 1) p p σ' ∧ σ'.2 4 p = 0 := by
  have h80 := h0.1
  intro p
  induction p with
  | zero =>
    intro _
    refine ⟨Nat.zero_le _, σ, fun fu => ?_, hf, hi, h4⟩
    rw [show lS L 76 d 0 + fu = fu from Nat.zero_add fu]; rfl
  | succ p ih =>
    intro hp
    obtain ⟨hle, σ1, e1, e2, e3, e4⟩ := ih (by omega)
    obtain ⟨σ2, g1, g2, g3⟩ := ly_line h0 (show p < 10 by have := hN.1; omega) e2 e3 e4
    obtain ⟨s1, s2, s3, s4⟩ := hN.2.2 p (by omega)
    have hS : lS L 76 d (p + 1) = lEnd L 76 d (lS L 76 d p) + 1 := rfl
    have hle2 : lS L 76 d p ≤ lEnd L 76 d (lS L 76 d p) := by unfold lEnd; omega
    have hx := tX_F h0 g2
    obtain ⟨i1, i2, i3, i4⟩ := id g3
    have hp9 : p + 1 < 10 := by have := hN.1; omega
    have ea : f_X3_addPlace σ2 = some (0, gs (gA σ2 4 (p + 1) 0) 195 (nI (p + 2))) := by
      unfold f_X3_addPlace
      rw [i1, if_neg (show ¬ (10 : Int32) ≤ nI (p + 1) from nI_ge (b := 10) (by omega) (by omega)), if_pos (ja_in (n := 10) (by omega) (by omega)), nI_clamp (by omega), nS]
    refine ⟨by omega, gs (gA σ2 4 (p + 1) 0) 195 (nI (p + 2)), fun fu => ?_, lyF_trans g2 ⟨fun i a _ _ => if_neg a, fun o o1 _ => funext fun j => by
        show (gA σ2 4 (p + 1) 0).2 o j = σ2.2 o j
        rw [ja_gA, if_neg (fun q => o1 q.1)]⟩, ⟨rfl, i2, i3, fun q hq => ?_⟩, ?_⟩
    · have a1 := e1 ((lEnd L 76 d (lS L 76 d p) - lS L 76 d p) + (1 + fu))
      rw [g1] at a1
      rw [show lS L 76 d (p + 1) + fu = lS L 76 d p + (lEnd L 76 d (lS L 76 d p) - lS L 76 d p + (1 + fu)) by omega, a1, show 1 + fu = fu + 1 by omega, f_X3_lay_1_b21, c_len hx]
      simp only [bnd]
      rw [if_neg (fun c => by have := (ja_le (by omega) (by omega)).1 c; omega), c_at hx s2, show d (lEnd L 76 d (lS L 76 d p)) = 59 by omega]
      simp only [bnd]
      rw [if_neg (show ¬ ¬ nI 59 = 59 from fun q => q rfl), ea]
      simp only [bnd]
      unfold f_X3_lay_1_b88
      rw [nS, hS]
    · obtain ⟨b1, b2⟩ := i4 q hq
      refine ⟨?_, fun k hk => ?_⟩
      · show (gA σ2 4 (p + 1) 0).2 4 q = _
        rw [ja_gA, if_neg (fun w => by omega)]; exact b1
      · show (gA σ2 4 (p + 1) 0).2 5 _ = _
        rw [ja_gA, if_neg (fun w => absurd w.1 (by decide))]; exact b2 k hk
    · show (gA σ2 4 (p + 1) 0).2 4 (p + 1) = 0
      rw [ja_gA, if_pos ⟨rfl, rfl⟩]
theorem c_lay {L N : Nat} {d : Nat → Nat} {σ0 : jT} (h0 : tX L d σ0) (hN : rdN L d N) : ∃ σ', f_X3_lay_1 σ0 = some (0, σ') ∧ lyF σ0 σ' ∧ lyI L d (N + 1) (N + 1) (N + 1) σ' := by
  have h80 := h0.1
  have e0 : f_X3_addPlace (gs (gs (gs σ0 195 0) 196 0) 197 0) = some (0, gs (gA (gs (gs (gs σ0 195 0) 196 0) 197 0) 4 0 0) 195 1) := by
    unfold f_X3_addPlace
    rw [show (gs (gs (gs σ0 195 0) 196 0) 197 0).1 195 = 0 from rfl, if_neg (by decide), if_pos (by decide)]; rfl
  have hf1 : lyF σ0 (gs (gA (gs (gs (gs σ0 195 0) 196 0) 197 0) 4 0 0) 195 1) := ⟨fun i a b c => (if_neg a).trans ((if_neg c).trans ((if_neg b).trans (if_neg a))), fun o o1 _ => funext fun j => by
    show (gA (gs (gs (gs σ0 195 0) 196 0) 197 0) 4 0 0).2 o j = σ0.2 o j
    rw [ja_gA, if_neg (fun q => o1 q.1)]; rfl⟩
  obtain ⟨hle, σ1, e1, e2, e3, e4⟩ := ly_lines h0 hN hf1 ⟨rfl, rfl, rep_iff rep_0 (fun q => ⟨False.elim, fun w => absurd w.1 (Nat.not_lt_zero _)⟩), fun p hp => absurd hp (Nat.not_lt_zero _)⟩ rfl N (Nat.le_refl _)
  obtain ⟨σ2, g1, g2, g3⟩ := ly_line h0 hN.1 e2 e3 e4
  have hle2 : lS L 76 d N ≤ lEnd L 76 d (lS L 76 d N) := by unfold lEnd; omega
  refine ⟨σ2, ?_, g2, g3⟩
  have hE := hN.2.1
  have a1 := e1 ((lEnd L 76 d (lS L 76 d N) - lS L 76 d N) + (1000 - L))
  rw [g1, hE, show lS L 76 d N + (L - lS L 76 d N + (1000 - L)) = 1000 by omega, show 1000 - L = (999 - L) + 1 by omega] at a1
  unfold f_X3_lay_1
  rw [e0]
  simp only [bnd]
  rw [a1, f_X3_lay_1_b21, c_len (tX_F h0 g2)]
  simp only [bnd]
  rw [if_pos ((ja_le (by omega) (by omega)).2 (Nat.le_refl _))]
