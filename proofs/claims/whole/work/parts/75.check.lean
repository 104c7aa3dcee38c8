/-! ===== the model looks for a wrong letter; the class lays THE ROADS ===== -/
theorem ck_off {K p w : Nat} {d : Nat → Nat} {i : Nat} {τ : jT} (hp : p < 10) (hw : w ≤ 3) (hn : ¬ τ.1 4177 = -1) (ha : aRow d i p w τ) (k100 : Int32 → Int32 → jT → Option (Int32 × jT)) : ∀ (m k fu : Nat), k + m = w → m < fu → f_X11_roads_b115 k100 fu (nI K) (nI p) (nI k) τ = k100 (nI K) (nI (p + 1)) τ := by
  intro m
  induction m with
  | zero =>
    intro k fu hk hf
    obtain ⟨fu, rfl⟩ : ∃ f', fu = f' + 1 := ⟨fu - 1, by omega⟩
    rw [f_X11_roads_b115, if_pos (ja_in (n := 10) (by omega) (by omega)), nI_clamp (by omega), ha.1, if_pos ((ja_le (by omega) (by omega)).2 (by omega)), nS]
  | succ m ih =>
    intro k fu hk hf
    obtain ⟨fu, rfl⟩ : ∃ f', fu = f' + 1 := ⟨fu - 1, by omega⟩
    rw [f_X11_roads_b115, if_pos (ja_in (n := 10) (by omega) (by omega)), nI_clamp (by omega), ha.1, if_neg (fun c => by have := (ja_le (by omega) (by omega)).1 c; omega), ix3 hp (by omega), if_pos (ja_in (n := 30) (by omega) (by omega)), m_fault0 hn]
    simp only [bnd]
    unfold f_X11_roads_b156
    rw [nS, ih (k + 1) fu (by omega) (by omega)]
    split <;> rfl
theorem ck_line {L K p i o : Nat} {d : Nat → Nat} {τ : jT} (hL80 : L ≤ 80) (hp : p < 10) (hK : K ≤ 10) (hw : τ.1 4177 = -1) (ha : aRow d i p (lA L 76 d i) τ) (hg : ∀ j, j < o → d j < 97 + K) (hb : o < L → 97 + K ≤ d o) (k100 : Int32 → Int32 → jT → Option (Int32 × jT)) : ∀ (m k fu : Nat), k + m = lA L 76 d i → m < fu → i + k ≤ o →
    f_X11_roads_b115 k100 fu (nI K) (nI p) (nI k) τ = k100 (nI K) (nI (p + 1)) (if o < i + lA L 76 d i then gs τ 4177 (nI o) else τ) := by
  have h3 := (lA_le L 76 d i).1
  intro m
  induction m with
  | zero =>
    intro k fu hk hf ho
    obtain ⟨fu, rfl⟩ : ∃ f', fu = f' + 1 := ⟨fu - 1, by omega⟩
    rw [f_X11_roads_b115, if_pos (ja_in (n := 10) (by omega) (by omega)), nI_clamp (by omega), ha.1, if_pos ((ja_le (by omega) (by omega)).2 (by omega)), nS, if_neg (by omega)]
  | succ m ih =>
    intro k fu hk hf ho
    obtain ⟨fu, rfl⟩ : ∃ f', fu = f' + 1 := ⟨fu - 1, by omega⟩
    obtain ⟨a1, a2, a3⟩ := ln_let (L := L) (M := 76) (d := d) (i := i) (k := k) (by omega)
    obtain ⟨b1, b2⟩ := ha.2 k (by omega)
    rw [f_X11_roads_b115, if_pos (ja_in (n := 10) (by omega) (by omega)), nI_clamp (by omega), ha.1, if_neg (fun c => by have := (ja_le (by omega) (by omega)).1 c; omega), ix3 hp (by omega), if_pos (ja_in (n := 30) (by omega) (by omega)), nI_clamp (by omega), b1, b2]
    unfold f_X11_roads_b156
    rw [nS]
    by_cases c : o = i + k
    · have hbo := hb (by omega)
      rw [if_neg (fun q => by have := (ja_lt (by omega) (by omega)).1 q; rw [c] at hbo; omega), m_fault hw]
      simp only [bnd]
      rw [if_pos (by omega), ← c]
      have ha' : aRow d i p (lA L 76 d i) (gs τ 4177 (nI o)) := ha
      exact ck_off hp h3 (show ¬ (gs τ 4177 (nI o)).1 4177 = -1 from by
        show ¬ nI o = -1
        exact ja_neg1 (by omega)) ha' k100 m (k + 1) fu (by omega) (by omega)
    · rw [if_pos ((ja_lt (by omega) (by omega)).2 (by have := hg (i + k) (by omega); omega))]
      exact ih (k + 1) fu (by omega) (by omega) (by omega)
theorem ck_end {K o p fu : Nat} {τ : jT} (ho : o < 2 ^ 31) (hw : τ.1 4177 = nI o) : f_X11_roads_b100 (fu + 1) (nI K) (nI p) τ = some (-1 - nI o, τ) := by
  have hn : ¬ τ.1 4177 = -1 := by rw [hw]; exact ja_neg1 ho
  have h168 : f_X11_roads_b168 (nI K) τ = some (-1 - nI o, τ) := by
    unfold f_X11_roads_b168
    rw [m_fine0 hn]
    simp only [bnd]
    rw [iNT, hw]
  rw [f_X11_roads_b100, h168, m_fine0 hn]
  simp only [bnd]
  rw [iT, h168]
  split <;> rfl
theorem ck_all {L N o : Nat} {d : Nat → Nat} {τ : jT} (hL : L ≤ 80) (hN : rdN L d N) (hok : rdOk L d (N + 1) τ) (hw : τ.1 4177 = -1) (ho : o ≤ L) (hg : ∀ j, j < o → d j < 97 + (N + 1)) (hb : o < L → 97 + (N + 1) ≤ d o) : ∀ (m p fu : Nat), p + m = N + 1 → m + 1 < fu → (p ≤ N → lS L 76 d p ≤ o) → (p = N + 1 → o = L) →
    f_X11_roads_b100 fu (nI (N + 1)) (nI p) τ = if o = L then f_X11_roads_b168 (nI (N + 1)) τ else some (-1 - nI o, gs τ 4177 (nI o)) := by
  obtain ⟨hN10, hE, h59⟩ := id hN
  intro m
  induction m with
  | zero =>
    intro p fu hp hf h1 h2
    obtain ⟨fu, rfl⟩ : ∃ f', fu = f' + 1 := ⟨fu - 1, by omega⟩
    rw [f_X11_roads_b100, if_pos ((ja_le (by omega) (by omega)).2 (by omega)), if_pos (h2 (by omega))]
  | succ m ih =>
    intro p fu hp hf h1 h2
    obtain ⟨fu, rfl⟩ : ∃ f', fu = f' + 1 := ⟨fu - 1, by omega⟩
    rw [f_X11_roads_b100, if_neg (fun c => by have := (ja_le (by omega) (by omega)).1 c; omega), m_fine hw]
    simp only [bnd]
    rw [if_neg (show ¬ (1 : Int32) = 0 by decide)]
    have hA := lA_le L 76 d (lS L 76 d p)
    have e := ck_line (K := N + 1) (o := o) hL (show p < 10 by omega) (by omega) hw (hok.2.1 p (by omega)) hg hb (f_X11_roads_b100 fu) (lA L 76 d (lS L 76 d p)) 0 1000 (by omega) (by omega) (h1 (by omega))
    have e' : f_X11_roads_b115 (f_X11_roads_b100 fu) 1000 (nI (N + 1)) (nI p) 0 τ = _ := e
    rw [e']
    by_cases c : o < lS L 76 d p + lA L 76 d (lS L 76 d p)
    · obtain ⟨fu, rfl⟩ : ∃ f', fu = f' + 1 := ⟨fu - 1, by omega⟩
      have hoL : o < L := by
        obtain ⟨a1, a2, a3⟩ := ln_let (L := L) (M := 76) (d := d) (i := lS L 76 d p) (k := o - lS L 76 d p) (by have := h1 (by omega); omega)
        have := h1 (by omega)
        omega
      rw [if_pos c, if_neg (by omega)]
      exact ck_end (by omega) rfl
    · rw [if_neg c]
      have hbad : ∀ j, lS L 76 d p ≤ j → j < lEnd L 76 d (lS L 76 d p) → j ≠ o ∨ o = L := by
        intro j j1 j2
        by_cases z : j = o
        · obtain ⟨b1, b2⟩ := ln_all j1 j2
          by_cases zL : o = L
          · exact Or.inr zL
          · have := hb (by omega)
            rw [z] at b2
            omega
        · exact Or.inl z
      have hoE : lEnd L 76 d (lS L 76 d p) ≤ o := by
        by_cases z : lEnd L 76 d (lS L 76 d p) ≤ o
        · exact z
        · rcases hbad o (h1 (by omega)) (by omega) with w | w
          · exact absurd rfl w
          · have : lEnd L 76 d (lS L 76 d p) ≤ L := by
              by_cases zz : p = N
              · rw [zz]; omega
              · have := (h59 p (by omega)).2.1; omega
            omega
      refine ih (p + 1) fu (by omega) (by omega) (fun hp2 => ?_) (fun hp2 => ?_)
      · obtain ⟨s1, s2, s3, s4⟩ := h59 p (by omega)
        have hS : lS L 76 d (p + 1) = lEnd L 76 d (lS L 76 d p) + 1 := rfl
        by_cases z : o = lEnd L 76 d (lS L 76 d p)
        · have := hb (by omega)
          rw [z] at this
          omega
        · omega
      · rw [show p = N by omega] at hoE; omega
