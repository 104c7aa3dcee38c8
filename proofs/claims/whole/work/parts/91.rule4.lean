/-! ===== THE RULE: signs ahead of things ===== -/
def sOK (L : Nat) (d : Nat → Nat) (k i : Nat) : Prop :=
  (∃ (j : Nat) (C : Nat → List Int32) (ev : (Nat → Int32) → Int32), i < j ∧ j ≤ 40 ∧ j ≤ L ∧
    (∀ b, b < 2 → (C b).length + i ≤ j + b ∧ (∀ (fu fl : Nat) (σ : jT) (q : Nat) (D : Nat → Int32) (x4 : Nat), 6 * (4 - k) + 1 ≤ fu → 40 < fl + i → x4 ≤ i → bX L 40 d σ → q + b ≤ i → f_X7_takeSigned_1_b5 (f_rec0 fu) fl (nI k) (nI b) (nI x4) (cQ σ i q D) = some (1, cQ σ j (q + (C b).length) (wr D q (C b)))) ∧ ∀ e st, rnL e (C b) st = (if b = 0 then ev e else -ev e) :: st) ∧
    tYs L d 2 57 k i j ∧ rYs L d 2 57 k i j ev) ∨
  ∃ e, e ≤ 40 ∧ (∀ b, b < 2 → ∀ (fu fl : Nat) (σ : jT) (q : Nat) (D : Nat → Int32) (x4 : Nat), 6 * (4 - k) + 1 ≤ fu → 40 < fl + i → x4 ≤ i → bX L 40 d σ → q + b ≤ i → ∃ q' D', q' ≤ 40 ∧ f_X7_takeSigned_1_b5 (f_rec0 fu) fl (nI k) (nI b) (nI x4) (cQ σ i q D) = some (0, cQ σ e q' D')) ∧ tNs L d 2 57 k i e
theorem b5_no {L i q k fl x4 : Nat} {d : Nat → Nat} {σ : jT} {D : Nat → Int32} {x3 : Int32} (rec : Nat → List Int32 → jT → Option (Int32 × jT)) (h : bX L 40 d σ) (hi : i ≤ 40) (hx : x4 ≤ 40) (h45 : ¬ sIn L 40 d i 45 45) : f_X7_takeSigned_1_b5 rec (fl + 1) (nI k) x3 (nI x4) (cQ σ i q D) = f_X7_takeSigned_1_b37 rec (nI k) x3 (cQ σ i q D) := by
  rw [f_X7_takeSigned_1_b5]
  have ht : f_X9_take 45 (cQ σ i q D) = some (0, cQ σ i q D) := (cq_take (a := 45) h (by omega) (by omega)).trans (if_neg h45)
  by_cases c : 40 ≤ x4
  · rw [if_pos (show (40 : Int32) ≤ nI x4 from (ja_le (a := 40) (by omega) (by omega)).2 c)]
  · rw [if_neg (show ¬ (40 : Int32) ≤ nI x4 from nI_ge (b := 40) (by omega) (by omega)), ht]
    simp only [bnd]
    rw [iT]
theorem len_app1 (C : List Int32) (x : Int32) : (C ++ [x]).length = C.length + 1 := by rw [List.length_append]; rfl
theorem s_base {L k i : Nat} {d : Nat → Nat} (hk : k ≤ 4) (hi : i ≤ 40) (h45 : ¬ sIn L 40 d i 45 45) (h : kOK L d k i) : sOK L d k i := by
  rcases h with ⟨j, C, ev, a1, a2, a3, a4, a5, a6, a7, a8⟩ | ⟨e, a1, a2, a3⟩
  · refine Or.inl ⟨j, fun b => if b = 0 then C else C ++ [2000], ev, a1, a2, a3, fun b hb => ?_, fun fu τ hf hm => ?_, fun e fu τ hf hm => ?_⟩
    · rcases (show b = 0 ∨ b = 1 by omega) with rfl | rfl
      · refine ⟨a4, fun fu fl σ q D x4 hf hfl hx hX hq => ?_, fun e st => a8 e st⟩
        obtain ⟨fl, rfl⟩ : ∃ f', fl = f' + 1 := ⟨fl - 1, by omega⟩
        rw [b5_no _ hX hi (by omega) h45, a5 fu σ q D _ hf hX (by omega)]
        unfold f_X7_takeSigned_1_b60
        rw [if_pos (by decide), if_pos (by decide)]
        rfl
      · refine ⟨?_, fun fu fl σ q D x4 hf hfl hx hX hq => ?_, fun e st => ?_⟩
        · show (C ++ [2000]).length + i ≤ j + 1
          rw [len_app1]; omega
        · obtain ⟨fl, rfl⟩ : ∃ f', fl = f' + 1 := ⟨fl - 1, by omega⟩
          rw [b5_no _ hX hi (by omega) h45, a5 fu σ q D _ hf hX (by omega)]
          unfold f_X7_takeSigned_1_b60
          rw [if_neg (by decide), cq_write (by omega)]
          simp only [bnd]
          rw [if_pos (by decide)]
          show some ((1 : Int32), cQ σ j (q + C.length + 1) (wr (wr D q C) (q + C.length) [2000])) = some (1, cQ σ j (q + (C ++ [2000]).length) (wr D q (C ++ [2000])))
          rw [wr_app, len_app1]; rfl
        · show rnL e (C ++ [2000]) st = (-ev e) :: st
          rw [rnL_app, a8]
          exact rn_neg (e := e) _ _
    · obtain ⟨fu, rfl⟩ : ∃ f', fu = f' + 1 := ⟨fu - 1, by omega⟩
      exact a6 fu τ (by omega) hm
    · obtain ⟨fu, rfl⟩ : ∃ f', fu = f' + 1 := ⟨fu - 1, by omega⟩
      exact a7 e fu τ (by omega) hm
  · refine Or.inr ⟨e, a1, fun b hb fu fl σ q D x4 hf hfl hx hX hq => ?_, fun fu τ hf hm => ?_⟩
    · obtain ⟨fl, rfl⟩ : ∃ f', fl = f' + 1 := ⟨fl - 1, by omega⟩
      obtain ⟨q', D', w1, w2⟩ := a2 fu σ q D (nI b) hf hX (by omega)
      rw [b5_no _ hX hi (by omega) h45, w2]
      unfold f_X7_takeSigned_1_b60
      rcases (show b = 0 ∨ b = 1 by omega) with rfl | rfl
      · rw [if_pos (by decide), if_pos (by decide)]
        exact ⟨q', D', w1, rfl⟩
      · obtain ⟨q2, D2, u1, u2⟩ := cq_write40 (i := e) (x := 2000) (σ := σ) (D := D') w1
        rw [if_neg (by decide), u2]
        simp only [bnd]
        rw [if_pos (by decide)]
        exact ⟨q2, D2, u1, rfl⟩
    · obtain ⟨fu, rfl⟩ : ∃ f', fu = f' + 1 := ⟨fu - 1, by omega⟩
      exact a3 fu τ (by omega) hm
theorem b5_yes {L i q k fl x4 b : Nat} {d : Nat → Nat} {σ : jT} {D : Nat → Int32} (rec : Nat → List Int32 → jT → Option (Int32 × jT)) (h : bX L 40 d σ) (hb : b < 2) (hx : x4 < 40) (h45 : sIn L 40 d i 45 45) : f_X7_takeSigned_1_b5 rec (fl + 1) (nI k) (nI b) (nI x4) (cQ σ i q D) = f_X7_takeSigned_1_b5 rec fl (nI k) (nI (1 - b)) (nI (x4 + 1)) (cQ σ (i + 1) q D) := by
  have h1 := h45.1
  have ht : f_X9_take 45 (cQ σ i q D) = some (1, cQ σ (i + 1) q D) := (cq_take (a := 45) h (by omega) (by omega)).trans (if_pos h45)
  rw [f_X7_takeSigned_1_b5, if_neg (show ¬ (40 : Int32) ≤ nI x4 from nI_ge (b := 40) (by omega) (by omega)), ht]
  simp only [bnd]
  unfold f_X7_takeSigned_1_b30
  rw [if_neg (show ¬ (1 : Int32) = 0 by decide), nS]
  rcases (show b = 0 ∨ b = 1 by omega) with rfl | rfl
  · rw [if_neg (by decide)]; rfl
  · rw [if_pos (by decide)]; rfl
theorem s_ok {L k : Nat} {d : Nat → Nat} (hd : ∀ j, j < L → d j < 256) (hk : k ≤ 4) (hin : k < 4 → ∀ i, i ≤ 40 → i ≤ L → pOK L d 0 3 60 (k + 1) i) : ∀ m i, i + m = 40 → i ≤ L → sOK L d k i := by
  intro m
  induction m with
  | zero =>
    intro i hi hL
    have h45 : ¬ sIn L 40 d i 45 45 := fun q => by have := q.1; omega
    exact s_base hk (by omega) h45 (k_ok hd hk hin (by omega) hL h45)
  | succ m ih =>
    intro i hi hL
    by_cases h45 : sIn L 40 d i 45 45
    · have h1 := h45.1
      have h2 := h45.2.1
      rcases ih (i + 1) (by omega) (by omega) with ⟨j, C, ev, a1, a2, a3, a4, a5, a6⟩ | ⟨e, a1, a2, a3⟩
      · refine Or.inl ⟨j, fun b => C (1 - b), fun e => -ev e, by omega, a2, a3, fun b hb => ?_, fun fu τ hf hm => ?_, fun e fu τ hf hm => ?_⟩
        · obtain ⟨b1, b2, b3⟩ := a4 (1 - b) (by omega)
          refine ⟨by show (C (1 - b)).length + i ≤ j + b; omega, fun fu fl σ q D x4 hf hfl hx hX hq => ?_, fun e st => ?_⟩
          · obtain ⟨fl, rfl⟩ : ∃ f', fl = f' + 1 := ⟨fl - 1, by omega⟩
            rw [b5_yes _ hX hb (by omega) h45]
            exact b2 fu fl σ q D (x4 + 1) hf (by omega) (by omega) hX (by omega)
          · rcases (show b = 0 ∨ b = 1 by omega) with rfl | rfl
            · exact b3 e st
            · refine (b3 e st).trans ?_
              show ev e :: st = - -ev e :: st
              rw [Int32.neg_neg]
        · obtain ⟨fu, rfl⟩ : ∃ f', fu = f' + 1 := ⟨fu - 1, by omega⟩
          obtain ⟨v, w⟩ := a5 fu (gs τ 4176 (nI (i + 1))) (by omega) (mT_1 hm (by omega))
          refine ⟨-v, ?_⟩
          show f_X11_thing_T (f_rec2 fu) (nI k) τ = _
          rw [th45_T _ _ hm.1 h45, w]
          simp only [bnd]
          rw [gs_gs]
        · obtain ⟨fu, rfl⟩ : ∃ f', fu = f' + 1 := ⟨fu - 1, by omega⟩
          have w := a6 e fu (gs τ 4176 (nI (i + 1))) (by omega) (nT_1 hm (by omega))
          show f_X11_thing_R (f_rec3 fu) (nI k) τ = _
          rw [th45_R _ _ hm.1 h45, w]
          simp only [bnd]
          rw [gs_gs]
      · refine Or.inr ⟨e, a1, fun b hb fu fl σ q D x4 hf hfl hx hX hq => ?_, fun fu τ hf hm => ?_⟩
        · obtain ⟨fl, rfl⟩ : ∃ f', fl = f' + 1 := ⟨fl - 1, by omega⟩
          rw [b5_yes _ hX hb (by omega) h45]
          exact a2 (1 - b) (by omega) fu fl σ q D (x4 + 1) hf (by omega) (by omega) hX (by omega)
        · obtain ⟨fu, rfl⟩ : ∃ f', fu = f' + 1 := ⟨fu - 1, by omega⟩
          obtain ⟨v, a, w⟩ := a3 fu (gs τ 4176 (nI (i + 1))) (by omega) (mT_1 hm (by omega))
          refine ⟨-v, a, ?_⟩
          show f_X11_thing_T (f_rec2 fu) (nI k) τ = _
          rw [th45_T _ _ hm.1 h45, w]
          simp only [bnd]
          rw [gs_gs]
    · exact s_base hk (by omega) h45 (k_ok hd hk hin (by omega) hL h45)
theorem th_rec (fu k : Nat) (s : jT) : f_rec0 (fu + 2) 0 [nI 3, nI k] s = (f_X7_takeSigned_1_b5 (f_rec0 fu) 1000 (nI k) 0 0 s).bind fun q4 => if q4.1 = 0 ∨ q4.1 = 1 then some (q4.1, q4.2) else none := by
  show f_X7_takeJoined_1 (f_rec0 (fu + 1)) (nI 3) (nI k) s = _
  unfold f_X7_takeJoined_1
  rw [if_neg (by decide)]
  rfl
theorem t_ok {L k i : Nat} {d : Nat → Nat} (hd : ∀ j, j < L → d j < 256) (hk : k ≤ 4) (hin : k < 4 → ∀ i, i ≤ 40 → i ≤ L → pOK L d 0 3 60 (k + 1) i) (hi : i ≤ 40) (hL : i ≤ L) : pOK L d 3 2 57 k i := by
  rcases s_ok hd hk hin (40 - i) i (by omega) hL with ⟨j, C, ev, a1, a2, a3, a4, a5, a6⟩ | ⟨e, a1, a2, a3⟩
  · obtain ⟨b1, b2, b3⟩ := a4 0 (by omega)
    refine Or.inl ⟨j, C 0, ev, a1, a2, a3, b1, fun fu σ q D hf hX hq => ?_, a5, a6, b3⟩
    obtain ⟨fu, rfl⟩ : ∃ f', fu = f' + 2 := ⟨fu - 2, by omega⟩
    rw [th_rec, show f_X7_takeSigned_1_b5 (f_rec0 fu) 1000 (nI k) 0 0 (cQ σ i q D) = _ from b2 fu 1000 σ q D 0 (by omega) (by omega) (by omega) hX (by omega)]
    simp only [bnd]
    rw [if_pos (by decide)]
  · refine Or.inr ⟨e, a1, fun fu σ q D hf hX hq => ?_, a3⟩
    obtain ⟨fu, rfl⟩ : ∃ f', fu = f' + 2 := ⟨fu - 2, by omega⟩
    obtain ⟨q', D', w1, w2⟩ := a2 0 (by omega) fu 1000 σ q D 0 (by omega) (by omega) (by omega) hX (by omega)
    refine ⟨q', D', w1, ?_⟩
    rw [th_rec, show f_X7_takeSigned_1_b5 (f_rec0 fu) 1000 (nI k) 0 0 (cQ σ i q D) = _ from w2]
    simp only [bnd]
    rw [if_pos (by decide)]
theorem rk_of {x : Int32} : (rkO x = 2 → x = 42 ∨ x = 47) ∧ (rkO x = 1 → x = 43 ∨ x = 45) ∧ (rkO x = 0 → x = 60 ∨ x = 62 ∨ x = 61) := by
  unfold rkO
  by_cases a1 : x = 42
  · rw [if_pos a1]
    exact ⟨fun _ => Or.inl a1, fun q => absurd q (by decide), fun q => absurd q (by decide)⟩
  rw [if_neg a1]
  by_cases a2 : x = 43
  · rw [if_pos a2]
    exact ⟨fun q => absurd q (by decide), fun _ => Or.inl a2, fun q => absurd q (by decide)⟩
  rw [if_neg a2]
  by_cases a3 : x = 45
  · rw [if_pos a3]
    exact ⟨fun q => absurd q (by decide), fun _ => Or.inr a3, fun q => absurd q (by decide)⟩
  rw [if_neg a3]
  by_cases a4 : x = 47
  · rw [if_pos a4]
    exact ⟨fun _ => Or.inr a4, fun q => absurd q (by decide), fun q => absurd q (by decide)⟩
  rw [if_neg a4]
  by_cases a5 : x = 60
  · rw [if_pos a5]
    exact ⟨fun q => absurd q (by decide), fun q => absurd q (by decide), fun _ => Or.inl a5⟩
  rw [if_neg a5]
  by_cases a6 : x = 61
  · rw [if_pos a6]
    exact ⟨fun q => absurd q (by decide), fun q => absurd q (by decide), fun _ => Or.inr (Or.inr a6)⟩
  rw [if_neg a6]
  by_cases a7 : x = 62
  · rw [if_pos a7]
    exact ⟨fun q => absurd q (by decide), fun q => absurd q (by decide), fun _ => Or.inr (Or.inl a7)⟩
  rw [if_neg a7]
  exact ⟨fun q => absurd q (by decide), fun q => absurd q (by decide), fun q => absurd q (by decide)⟩
