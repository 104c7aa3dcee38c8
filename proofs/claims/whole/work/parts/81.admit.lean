/-! ===== riders are admitted ===== -/
/-- the views of line q -/
def vF (L : Nat) (d : Nat → Nat) (P q k : Nat) : Nat := d (rSt L d P q + nD L 76 d (rSt L d P q) + 1 + k) - 48
def adI (L : Nat) (d : Nat → Nat) (P Q p : Nat) (σ0 σ : jT) : Prop := σ.1 197 = nI (Q + p) ∧ (∀ i, i ≠ 197 → i ≠ 67 → σ.1 i = σ0.1 i) ∧ (∀ o, o ≠ 6 → o ≠ 13 → σ.2 o = σ0.2 o) ∧ (∀ z, z < Q → σ.2 6 z = σ0.2 6 z) ∧
  (∀ z, (∀ q, q < p → z ≠ Q + q ∧ z ≠ 6 + (Q + q) ∧ z ≠ 12 + (Q + q) ∧ z ≠ 18 + (Q + q)) → σ.2 13 z = σ0.2 13 z) ∧
  ∀ q, q < p → σ.2 6 (Q + q) = nI (nV L 76 d (rSt L d P q)) ∧ σ.2 13 (Q + q) = 0 ∧ σ.2 13 (6 + (Q + q)) = 0 ∧ σ.2 13 (12 + (Q + q)) = -1 ∧ σ.2 13 (18 + (Q + q)) = nI (sMap (vF L d P q) P)
theorem max0 {v : Nat} (h : v ≤ 2) : jx_max 0 (nI v) = nI v := by
  have : ∀ v, v < 3 → jx_max 0 (nI v) = nI v := by decide
  exact this v (by omega)
theorem vF_le {L P q k : Nat} {d : Nat → Nat} (h : rOk L 76 d P (rSt L d P q)) (hk : k < P) : vF L d P q k ≤ 2 := by
  have := (h.2.2.2 k hk).2.2.2
  unfold vF; omega
theorem ad_views {L P p : Nat} {d : Nat → Nat} {σ : jT} {x1 x2 x3 : Int32} (h : bX L 76 d σ) (hP : P ≤ 10) (p1 : σ.1 195 = nI P) (hok : rOk L 76 d P (rSt L d P p)) (k13 : Int32 → Int32 → jT → Option (Int32 × jT)) : ∀ (m k fu : Nat), k + m = P → f_X10_admitAll_b54 k13 (m + (fu + 1)) x1 x2 x3 (nI (sMap (vF L d P p) k)) (nI k) (gs σ 67 (nI (rSt L d P p + nD L 76 d (rSt L d P p) + 1 + k))) = f_X10_admitAll_b54 k13 (fu + 1) x1 x2 x3 (nI (sMap (vF L d P p) P)) (nI P) (gs σ 67 (nI (rEnd L 76 d P (rSt L d P p)))) := by
  intro m
  induction m with
  | zero =>
    intro k fu hk
    obtain rfl : k = P := by omega
    rw [Nat.zero_add]; rfl
  | succ m ih =>
    intro k fu hk
    obtain ⟨a1, a2, a3, a4⟩ := hok.2.2.2 k (by omega)
    have hv := vF_le hok (show k < P by omega)
    rw [show m + 1 + (fu + 1) = (m + (fu + 1)) + 1 by omega, f_X10_admitAll_b54]
    unfold f_X3_places
    simp only [bnd]
    rw [show (gs σ 67 (nI (rSt L d P p + nD L 76 d (rSt L d P p) + 1 + k))).1 195 = nI P from p1, if_neg (fun c => by have := (ja_le (by omega) (by omega)).1 c; omega)]
    have en := c_num1 (i := rSt L d P p + nD L 76 d (rSt L d P p) + 1 + k) h (by omega)
    rw [en, if_pos ⟨a1, a2, a3, by omega⟩]
    simp only [bnd]
    have hlt := sMap_lt (f := vF L d P p) k (fun j hj => by have := vF_le hok (show j < P by omega); omega)
    have ev : nI (d (rSt L d P p + nD L 76 d (rSt L d P p) + 1 + k) - 48) = nI (vF L d P p k) := rfl
    rw [ev, max0 hv, map_or hlt (by omega) (by omega), nS]
    have := ih (k + 1) fu (by omega)
    exact this
theorem c_admit {Q r : Nat} {m : Int32} {σ : jT} (hr : r < 6) : f_X8_admit (nI r) m σ = some (0, gA (gA (gA (gA σ 13 r 0) 13 (6 + r) 0) 13 (12 + r) (-1)) 13 (18 + r) m) := by
  unfold f_X8_admit
  have e1 : f_X8_set 0 (nI r) 0 σ = _ := c_set (a := 0) (v := 0) (σ := σ) (by omega) hr
  rw [e1, Nat.zero_add]
  simp only [bnd]
  have e2 : f_X8_set 6 (nI r) 0 (gA σ 13 r 0) = _ := c_set (a := 6) (v := 0) (by omega) hr
  rw [e2]
  simp only [bnd]
  have e3 : f_X8_set 12 (nI r) (-1) (gA (gA σ 13 r 0) 13 (6 + r) 0) = _ := c_set (a := 12) (v := -1) (by omega) hr
  rw [e3]
  simp only [bnd]
  have e4 : f_X8_set 18 (nI r) m (gA (gA (gA σ 13 r 0) 13 (6 + r) 0) 13 (12 + r) (-1)) = _ := c_set (a := 18) (v := m) (by omega) hr
  rw [e4]
  simp only [bnd]
theorem ad_step {L P Q p j : Nat} {d : Nat → Nat} {σ0 σ : jT} (hr : Q + p < 6) (h : adI L d P Q p σ0 σ) : adI L d P Q (p + 1) σ0 (gs (gA (gA (gA (gA (gA (gs σ 67 (nI j)) 13 (Q + p) 0) 13 (6 + (Q + p)) 0) 13 (12 + (Q + p)) (-1)) 13 (18 + (Q + p)) (nI (sMap (vF L d P p) P))) 6 (Q + p) (nI (nV L 76 d (rSt L d P p)))) 197 (nI (Q + p + 1))) := by
  obtain ⟨h1, h2, h3, h4, h5, h6⟩ := h
  have r6 : ∀ z, (gA (gA (gA (gA (gA (gs σ 67 (nI j)) 13 (Q + p) 0) 13 (6 + (Q + p)) 0) 13 (12 + (Q + p)) (-1)) 13 (18 + (Q + p)) (nI (sMap (vF L d P p) P))) 6 (Q + p) (nI (nV L 76 d (rSt L d P p)))).2 6 z = if z = Q + p then nI (nV L 76 d (rSt L d P p)) else σ.2 6 z := fun z => by
    rw [ja_gA]
    by_cases c : z = Q + p
    · rw [if_pos ⟨rfl, c⟩, if_pos c]
    · rw [if_neg (fun q => c q.2), if_neg c, ja_gA, if_neg (fun q => absurd q.1 (by decide)), ja_gA, if_neg (fun q => absurd q.1 (by decide)), ja_gA, if_neg (fun q => absurd q.1 (by decide)), ja_gA, if_neg (fun q => absurd q.1 (by decide))]; rfl
  have r13 : ∀ z, (gA (gA (gA (gA (gA (gs σ 67 (nI j)) 13 (Q + p) 0) 13 (6 + (Q + p)) 0) 13 (12 + (Q + p)) (-1)) 13 (18 + (Q + p)) (nI (sMap (vF L d P p) P))) 6 (Q + p) (nI (nV L 76 d (rSt L d P p)))).2 13 z = if z = 18 + (Q + p) then nI (sMap (vF L d P p) P) else if z = 12 + (Q + p) then -1 else if z = 6 + (Q + p) then 0 else if z = Q + p then 0 else σ.2 13 z := fun z => by
    rw [ja_gA, if_neg (fun q => absurd q.1 (by decide)), ja_gA]
    by_cases c1 : z = 18 + (Q + p)
    · rw [if_pos ⟨rfl, c1⟩, if_pos c1]
    · rw [if_neg (fun q => c1 q.2), if_neg c1, ja_gA]
      by_cases c2 : z = 12 + (Q + p)
      · rw [if_pos ⟨rfl, c2⟩, if_pos c2]
      · rw [if_neg (fun q => c2 q.2), if_neg c2, ja_gA]
        by_cases c3 : z = 6 + (Q + p)
        · rw [if_pos ⟨rfl, c3⟩, if_pos c3]
        · rw [if_neg (fun q => c3 q.2), if_neg c3, ja_gA]
          by_cases c4 : z = Q + p
          · rw [if_pos ⟨rfl, c4⟩, if_pos c4]
          · rw [if_neg (fun q => c4 q.2), if_neg c4]; rfl
  refine ⟨rfl, fun i a1 a2 => (if_neg a1).trans ((if_neg a2).trans (h2 i a1 a2)), fun o a1 a2 => ?_, fun z hz => ?_, fun z hz => ?_, fun q hq => ?_⟩
  · rw [← h3 o a1 a2]
    funext z
    show (gA (gA (gA (gA (gA (gs σ 67 (nI j)) 13 (Q + p) 0) 13 (6 + (Q + p)) 0) 13 (12 + (Q + p)) (-1)) 13 (18 + (Q + p)) (nI (sMap (vF L d P p) P))) 6 (Q + p) (nI (nV L 76 d (rSt L d P p)))).2 o z = _
    rw [ja_gA, if_neg (fun q => a1 q.1), ja_gA, if_neg (fun q => a2 q.1), ja_gA, if_neg (fun q => a2 q.1), ja_gA, if_neg (fun q => a2 q.1), ja_gA, if_neg (fun q => a2 q.1)]; rfl
  · refine (r6 z).trans ?_
    rw [if_neg (by omega)]; exact h4 z hz
  · refine (r13 z).trans ?_
    obtain ⟨b1, b2, b3, b4⟩ := hz p (by omega)
    rw [if_neg b4, if_neg b3, if_neg b2, if_neg b1]
    exact h5 z (fun q hq => hz q (by omega))
  · by_cases c : q = p
    · subst c
      refine ⟨(r6 _).trans (if_pos rfl), (r13 _).trans ?_, (r13 _).trans ?_, (r13 _).trans ?_, (r13 _).trans (if_pos rfl)⟩
      · rw [if_neg (by omega), if_neg (by omega), if_neg (by omega), if_pos rfl]
      · rw [if_neg (by omega), if_neg (by omega), if_pos rfl]
      · rw [if_neg (by omega), if_pos rfl]
    · obtain ⟨b1, b2, b3, b4, b5⟩ := h6 q (by omega)
      refine ⟨(r6 _).trans ?_, (r13 _).trans ?_, (r13 _).trans ?_, (r13 _).trans ?_, (r13 _).trans ?_⟩
      · rw [if_neg (by omega)]; exact b1
      · rw [if_neg (by omega), if_neg (by omega), if_neg (by omega), if_neg (by omega)]; exact b2
      · rw [if_neg (by omega), if_neg (by omega), if_neg (by omega), if_neg (by omega)]; exact b3
      · rw [if_neg (by omega), if_neg (by omega), if_neg (by omega), if_neg (by omega)]; exact b4
      · rw [if_neg (by omega), if_neg (by omega), if_neg (by omega), if_neg (by omega)]; exact b5
theorem ad_all {L P Q N : Nat} {d : Nat → Nat} {σ0 : jT} (hb : bX L 76 d σ0) (hP : P ≤ 10) (hQN : Q + N < 6) (p1 : σ0.1 195 = nI P) (hE : rEnd L 76 d P (rSt L d P N) = L) (h59 : ∀ p, p < N → sIn L 76 d (rEnd L 76 d P (rSt L d P p)) 59 59) (hok : ∀ p, p < N + 1 → rOk L 76 d P (rSt L d P p)) :
    ∀ (m p fu : Nat) (s : jT), p + m = N + 1 → m < fu → adI L d P Q p σ0 s → s.1 67 = nI (if p = N + 1 then L else rSt L d P p) → ∃ s', f_X10_admitAll_b13 fu (nI p) (nI p) s = some (nI (N + 1), gs (gs s' 899 0) 900 0) ∧ adI L d P Q (N + 1) σ0 s' := by
  have hL80 := hb.1
  intro m
  induction m with
  | zero =>
    intro p fu s hp hf hi h67
    obtain ⟨fu, rfl⟩ : ∃ f', fu = f' + 1 := ⟨fu - 1, by omega⟩
    obtain rfl : p = N + 1 := by omega
    rw [if_pos rfl] at h67
    refine ⟨s, ?_, hi⟩
    have h137 : f_X10_admitAll_b137 (nI (N + 1)) s = some (nI (N + 1), gs (gs s 899 0) 900 0) := by
      unfold f_X10_admitAll_b137 f_X2_forgetAll
      simp only [bnd]
    rw [f_X10_admitAll_b13, h137]
    have hbs : bX L 76 d s := by
      unfold bX
      rw [hi.2.1 65 (by decide) (by decide), hi.2.1 66 (by decide) (by decide), hi.2.2.1 2 (by decide) (by decide)]; exact hb
    have hx : cX L 76 L d s := by
      have := bX_at hbs (show L ≤ 80 from hL80)
      rw [gs_same h67] at this
      exact this
    unfold f_X9_isOver
    rw [c_peek hx, sgn_f (Or.inr (Nat.le_refl _))]
    simp only [bnd]
    rw [iNT]
    simp only [bnd]
    rw [if_pos (show ¬ (1 : Int32) = 0 by decide), h137]
    split <;> rfl
  | succ m ih =>
    intro p fu s hp hf hi h67
    obtain ⟨fu, rfl⟩ : ∃ f', fu = f' + 1 := ⟨fu - 1, by omega⟩
    rw [if_neg (by omega)] at h67
    have hbs : bX L 76 d s := by
      unfold bX
      rw [hi.2.1 65 (by decide) (by decide), hi.2.1 66 (by decide) (by decide), hi.2.2.1 2 (by decide) (by decide)]; exact hb
    have ho := hok p (by omega)
    obtain ⟨o1, o2, o3, o4⟩ := id ho
    obtain ⟨hE1, hE2⟩ := rOk_end ho
    have hle : rSt L d P p ≤ rEnd L 76 d P (rSt L d P p) := by unfold rEnd; omega
    have hdg : sIn L 76 d (rSt L d P p) 48 57 := Classical.not_not.1 (fun w => o1 (nD_0 w))
    have hs : gs s 67 (nI (rSt L d P p)) = s := gs_same h67
    rw [← hs, f_X10_admitAll_b13, if_neg (show ¬ (6 : Int32) ≤ nI p from nI_ge (b := 6) (by omega) (by omega))]
    unfold f_X9_isOver
    rw [c_peek (bX_at hbs (by omega)), sgn_t hdg.1 hdg.2.1]
    simp only [bnd]
    have hd256 := (hbs.2.2.2.2 _ hdg.2.1).1
    rw [if_pos (ja_neg1 (by omega))]
    simp only [bnd]
    rw [iNT, c_num2 hbs (by omega), if_neg o1]
    simp only [bnd]
    have et := b_take (a := 58) hbs (show rSt L d P p + nD L 76 d (rSt L d P p) ≤ 80 by have := o3.1; omega) (by omega)
    have et' : f_X9_take 58 (gs s 67 (nI (rSt L d P p + nD L 76 d (rSt L d P p)))) = _ := et
    rw [et', if_pos o3]
    simp only [bnd]
    have p1s : s.1 195 = nI P := by rw [hi.2.1 195 (by decide) (by decide)]; exact p1
    have ev := ad_views (p := p) (x1 := nI p) (x2 := nI p) (x3 := nI (nV L 76 d (rSt L d P p))) hbs hP p1s ho (f_X10_admitAll_b13 fu) P 0 (999 - P) (by omega)
    rw [show P + (999 - P + 1) = 1000 by omega] at ev
    have ev' : f_X10_admitAll_b54 (f_X10_admitAll_b13 fu) 1000 (nI p) (nI p) (nI (nV L 76 d (rSt L d P p))) 0 0 (gs s 67 (nI (rSt L d P p + nD L 76 d (rSt L d P p) + 1))) = _ := ev
    rw [ev', f_X10_admitAll_b54]
    unfold f_X3_places
    simp only [bnd]
    rw [show (gs s 67 (nI (rEnd L 76 d P (rSt L d P p)))).1 195 = nI P from p1s, if_pos ((ja_le (by omega) (by omega)).2 (Nat.le_refl _))]
    have e9 := b_take (a := 59) hbs (show rEnd L 76 d P (rSt L d P p) ≤ 80 by omega) (by omega)
    have e9' : f_X9_take 59 (gs s 67 (nI (rEnd L 76 d P (rSt L d P p)))) = _ := e9
    rw [e9']
    have go : ∀ j, (j = if p + 1 = N + 1 then L else rSt L d P (p + 1)) → ∃ s', ((f_X3_riderCount (gs s 67 (nI j))).bind fun q4 => (f_X8_admit q4.1 (nI (sMap (vF L d P p) P)) q4.2).bind fun q5 => (f_X3_admit (nI (nV L 76 d (rSt L d P p))) q5.2).bind fun q6 => f_X10_admitAll_b13 fu (nI p + 1) (nI p + 1) q6.2) = some (nI (N + 1), gs (gs s' 899 0) 900 0) ∧ adI L d P Q (N + 1) σ0 s' := by
      intro j hj
      have er : f_X3_riderCount (gs s 67 (nI j)) = some (nI (Q + p), gs s 67 (nI j)) := by
        unfold f_X3_riderCount
        rw [show (gs s 67 (nI j)).1 197 = nI (Q + p) from hi.1]
      rw [er]
      simp only [bnd]
      rw [c_admit (Q := Q) (by omega)]
      simp only [bnd]
      unfold f_X3_admit
      rw [show (gA (gA (gA (gA (gs s 67 (nI j)) 13 (Q + p) 0) 13 (6 + (Q + p)) 0) 13 (12 + (Q + p)) (-1)) 13 (18 + (Q + p)) (nI (sMap (vF L d P p) P))).1 197 = nI (Q + p) from hi.1, if_neg (show ¬ (6 : Int32) ≤ nI (Q + p) from nI_ge (b := 6) (by omega) (by omega)), if_pos (ja_in (n := 6) (by omega) (by omega)), nI_clamp (by omega)]
      simp only [bnd]
      rw [nS, nS]
      exact ih (p + 1) fu _ (by omega) (by omega) (ad_step (j := j) (by omega) hi) (by rw [← hj]; rfl)
    by_cases c : p < N
    · have c59 := h59 p c
      rw [if_pos c59]
      simp only [bnd]
      exact go _ (by rw [if_neg (by omega)]; rfl)
    · obtain rfl : p = N := by omega
      have c59 : ¬ sIn L 76 d (rEnd L 76 d P (rSt L d P p)) 59 59 := fun w => by have := w.2.1; omega
      rw [if_neg c59]
      simp only [bnd]
      exact go _ (by rw [if_pos rfl]; exact hE)
