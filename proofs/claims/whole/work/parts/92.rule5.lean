/-! ===== THE RULE: products, sums, comparisons ===== -/
/-- products from i on, behind the first -/
def lOK_product (L : Nat) (d : Nat → Nat) (k i : Nat) : Prop :=
  (∃ (j : Nat) (C : List Int32) (ev : (Nat → Int32) → Int32 → Int32), i ≤ j ∧ j ≤ 40 ∧ j ≤ L ∧ C.length + i ≤ j ∧
    (∀ (fu fl : Nat) (σ : jT) (q : Nat) (D : Nat → Int32) (x6 : Nat), 6 * (4 - k) + 6 ≤ fu + 3 → 40 < fl + i → x6 ≤ i → bX L 40 d σ → q ≤ i → f_X7_takeJoined_1_b38 (f_rec0 fu) fl (nI 2) (nI k) 1 40 (nI x6) (cQ σ i q D) = some (1, cQ σ j (q + C.length) (wr D q C))) ∧
    (∀ (fu fl : Nat) (τ : jT) (acc : Int32), 57 ≤ fu + i + 4 * k → 40 < fl + i → mT L d i τ → ∃ v, f_X11_product_T_b6 (f_rec2 fu) fl (nI k) acc τ = some (v, gs τ 4176 (nI j))) ∧
    (∀ (e : Nat → Int32) (fu fl : Nat) (τ : jT) (acc : Int32), 57 ≤ fu + i + 4 * k → 40 < fl + i → nT L d i e τ → f_X11_product_R_b6 (f_rec3 fu) fl (nI k) acc τ = some (ev e acc, gs τ 4176 (nI j))) ∧
    ∀ e acc st, rnL e C (acc :: st) = ev e acc :: st) ∨
  ∃ e, e ≤ 40 ∧ (∀ (fu fl : Nat) (σ : jT) (q : Nat) (D : Nat → Int32) (x6 : Nat), 6 * (4 - k) + 6 ≤ fu + 3 → 40 < fl + i → x6 ≤ i → bX L 40 d σ → q ≤ i → ∃ q' D', q' ≤ 40 ∧ f_X7_takeJoined_1_b38 (f_rec0 fu) fl (nI 2) (nI k) 1 40 (nI x6) (cQ σ i q D) = some (0, cQ σ e q' D')) ∧
    (∀ (fu fl : Nat) (τ : jT) (acc : Int32), 57 ≤ fu + i + 4 * k → 40 < fl + i → mT L d i τ → ∃ v a, f_X11_product_T_b6 (f_rec2 fu) fl (nI k) acc τ = some (v, gs (gs τ 4176 a) 4177 (nI e)))
theorem st_product_T42 (rec : Nat → List Int32 → jT → Option (Int32 × jT)) {L i fl : Nat} {d : Nat → Nat} {τ : jT} (x acc : Int32) (h : mX L 40 i d τ) (hs : sgn L 40 d i = 42) : f_X11_product_T_b6 rec (fl + 1) x acc τ = (rec 2 [x] (gs τ 4176 (nI (i + 1)))).bind fun q1 => f_X11_product_T_b6 rec fl x (acc * q1.1) q1.2 := by
  have hh : f_X11_here_T τ = some (42, τ) := by rw [m_here h, hs]
  rw [f_X11_product_T_b6, m_fine h.2.2.2.2.2.2.1]
  simp only [bnd]
  rw [if_neg (show ¬ (1 : Int32) = 0 by decide), hh]
  simp only [bnd]
  rw [iT]
  unfold f_X11_product_T_b31
  rw [hh]
  simp only [bnd]
  rw [iNT]
  unfold f_X11_product_T_b45
  rw [h.2.2.2.2.2.1, nS]
  refine congrArg (fun f => Option.bind (rec 2 [x] (gs τ 4176 (nI (i + 1)))) f) (funext fun q1 => ?_)
  rw [if_neg (show ¬ (1 : Int32) = 0 by decide)]
  rfl
theorem st_product_T47 (rec : Nat → List Int32 → jT → Option (Int32 × jT)) {L i fl : Nat} {d : Nat → Nat} {τ : jT} (x acc : Int32) (h : mX L 40 i d τ) (hs : sgn L 40 d i = 47) : f_X11_product_T_b6 rec (fl + 1) x acc τ = (rec 2 [x] (gs τ 4176 (nI (i + 1)))).bind fun q1 => f_X11_product_T_b6 rec fl x (if ¬ q1.1 = 0 then acc / q1.1 else 0) q1.2 := by
  have hh : f_X11_here_T τ = some (47, τ) := by rw [m_here h, hs]
  rw [f_X11_product_T_b6, m_fine h.2.2.2.2.2.2.1]
  simp only [bnd]
  rw [if_neg (show ¬ (1 : Int32) = 0 by decide), hh]
  simp only [bnd]
  rw [if_neg (show ¬ (47 : Int32) = 42 by decide), hh]
  simp only [bnd]
  rw [iNT]
  unfold f_X11_product_T_b31
  rw [hh]
  simp only [bnd]
  rw [if_pos (show ¬ (47 : Int32) = 42 by decide)]
  unfold f_X11_product_T_b45
  rw [h.2.2.2.2.2.1, nS]
  refine congrArg (fun f => Option.bind (rec 2 [x] (gs τ 4176 (nI (i + 1)))) f) (funext fun q1 => ?_)
  rw [if_pos rfl]
  unfold f_X11_product_T_b87
  by_cases z : q1.1 = 0
  · rw [if_neg (fun w => w z), if_neg (fun w => w z)]
  · rw [if_pos z, if_neg z, if_pos z]
theorem st_product_Tno (rec : Nat → List Int32 → jT → Option (Int32 × jT)) {L i fl : Nat} {d : Nat → Nat} {τ : jT} (x acc : Int32) (h : mX L 40 i d τ) (h1 : ¬ sgn L 40 d i = 42) (h2 : ¬ sgn L 40 d i = 47) : f_X11_product_T_b6 rec (fl + 1) x acc τ = some (acc, gs τ 4176 (nI i)) := by
  rw [f_X11_product_T_b6, m_fine h.2.2.2.2.2.2.1]
  simp only [bnd]
  rw [if_neg (show ¬ (1 : Int32) = 0 by decide), m_here h]
  simp only [bnd]
  rw [if_neg h1, m_here h]
  simp only [bnd]
  rw [if_pos h2, gs_same h.2.2.2.2.2.1]
theorem st_product_R42 (rec : Nat → List Int32 → jT → Option (Int32 × jT)) {L i fl : Nat} {d : Nat → Nat} {τ : jT} (x acc : Int32) (h : nX L i d τ) (hs : sgn L 40 d i = 42) : f_X11_product_R_b6 rec (fl + 1) x acc τ = (rec 2 [x] (gs τ 4176 (nI (i + 1)))).bind fun q1 => f_X11_product_R_b6 rec fl x (acc * q1.1) q1.2 := by
  have hh : f_X11_here_R τ = some (42, τ) := by rw [n_here h, hs]
  rw [f_X11_product_R_b6, m_fine h.2.2.2.2.2.1]
  simp only [bnd]
  rw [if_neg (show ¬ (1 : Int32) = 0 by decide), hh]
  simp only [bnd]
  rw [iT]
  unfold f_X11_product_R_b31
  rw [hh]
  simp only [bnd]
  rw [iNT]
  unfold f_X11_product_R_b45
  rw [h.2.2.2.2.1, nS]
  refine congrArg (fun f => Option.bind (rec 2 [x] (gs τ 4176 (nI (i + 1)))) f) (funext fun q1 => ?_)
  rw [if_neg (show ¬ (1 : Int32) = 0 by decide)]
  rfl
theorem st_product_R47 (rec : Nat → List Int32 → jT → Option (Int32 × jT)) {L i fl : Nat} {d : Nat → Nat} {τ : jT} (x acc : Int32) (h : nX L i d τ) (hs : sgn L 40 d i = 47) : f_X11_product_R_b6 rec (fl + 1) x acc τ = (rec 2 [x] (gs τ 4176 (nI (i + 1)))).bind fun q1 => f_X11_product_R_b6 rec fl x (if ¬ q1.1 = 0 then acc / q1.1 else 0) q1.2 := by
  have hh : f_X11_here_R τ = some (47, τ) := by rw [n_here h, hs]
  rw [f_X11_product_R_b6, m_fine h.2.2.2.2.2.1]
  simp only [bnd]
  rw [if_neg (show ¬ (1 : Int32) = 0 by decide), hh]
  simp only [bnd]
  rw [if_neg (show ¬ (47 : Int32) = 42 by decide), hh]
  simp only [bnd]
  rw [iNT]
  unfold f_X11_product_R_b31
  rw [hh]
  simp only [bnd]
  rw [if_pos (show ¬ (47 : Int32) = 42 by decide)]
  unfold f_X11_product_R_b45
  rw [h.2.2.2.2.1, nS]
  refine congrArg (fun f => Option.bind (rec 2 [x] (gs τ 4176 (nI (i + 1)))) f) (funext fun q1 => ?_)
  rw [if_pos rfl]
  unfold f_X11_product_R_b87
  by_cases z : q1.1 = 0
  · rw [if_neg (fun w => w z), if_neg (fun w => w z)]
  · rw [if_pos z, if_neg z, if_pos z]
theorem st_product_Rno (rec : Nat → List Int32 → jT → Option (Int32 × jT)) {L i fl : Nat} {d : Nat → Nat} {τ : jT} (x acc : Int32) (h : nX L i d τ) (h1 : ¬ sgn L 40 d i = 42) (h2 : ¬ sgn L 40 d i = 47) : f_X11_product_R_b6 rec (fl + 1) x acc τ = some (acc, gs τ 4176 (nI i)) := by
  rw [f_X11_product_R_b6, m_fine h.2.2.2.2.2.1]
  simp only [bnd]
  rw [if_neg (show ¬ (1 : Int32) = 0 by decide), n_here h]
  simp only [bnd]
  rw [if_neg h1, n_here h]
  simp only [bnd]
  rw [if_pos h2, gs_same h.2.2.2.2.1]
theorem st_product_bad (rec : Nat → List Int32 → jT → Option (Int32 × jT)) {fl : Nat} {τ : jT} (x acc : Int32) (h : ¬ τ.1 4177 = -1) : f_X11_product_T_b6 rec (fl + 1) x acc τ = some (acc, τ) := by
  rw [f_X11_product_T_b6, m_fine0 h]
  simp only [bnd]
  rw [iT]
theorem st_product_C (rec : Nat → List Int32 → jT → Option (Int32 × jT)) {L i q fl x6 c : Nat} {d : Nat → Nat} {σ : jT} {D : Nat → Int32} (x : Int32) (h : bX L 40 d σ) (hx : x6 < 40) (h1 : i < 40) (h2 : i < L) (hc : d i = c) (hr : rkO (nI c) = nI 2) : f_X7_takeJoined_1_b38 rec (fl + 1) (nI 2) x 1 40 (nI x6) (cQ σ i q D) = (rec 0 [nI 3, x] (cQ σ (i + 1) q D)).bind fun q10 => (f_X7_write (3000 + nI c) q10.2).bind fun q11 => f_X7_takeJoined_1_b38 rec fl (nI 2) x q10.1 40 (nI (x6 + 1)) q11.2 := by
  rw [f_X7_takeJoined_1_b38, if_neg (show ¬ (40 : Int32) ≤ nI x6 from nI_ge (b := 40) hx (by omega)), if_neg (show ¬ (1 : Int32) = 0 by decide), cq_peek h (by omega), sgn_t h1 h2, hc]
  simp only [bnd]
  rw [c_rank]
  simp only [bnd]
  rw [hr, if_neg (fun w => w rfl), cq_next h h1 h2, hc]
  simp only [bnd]
  rw [nS, nS]
theorem st_product_Cno (rec : Nat → List Int32 → jT → Option (Int32 × jT)) {L i q fl : Nat} {d : Nat → Nat} {σ : jT} {D : Nat → Int32} (x y : Int32) (h : bX L 40 d σ) (hi : i ≤ 40) (hr : ¬ rkO (sgn L 40 d i) = nI 2) : f_X7_takeJoined_1_b38 rec (fl + 1) (nI 2) x 1 40 y (cQ σ i q D) = some (1, cQ σ i q D) := by
  rw [f_X7_takeJoined_1_b38, if_pos (show (1 : Int32) = 0 ∨ (1 : Int32) = 1 by decide), if_neg (show ¬ (1 : Int32) = 0 by decide), cq_peek h (by omega)]
  simp only [bnd]
  rw [c_rank]
  simp only [bnd]
  rw [if_pos hr]
  split <;> rfl
theorem st_product_C0 (rec : Nat → List Int32 → jT → Option (Int32 × jT)) {fl : Nat} {s : jT} (x y z : Int32) : f_X7_takeJoined_1_b38 rec (fl + 1) (nI 2) x 0 y z s = some (0, s) := by
  rw [f_X7_takeJoined_1_b38]
  split
  · rfl
  · rw [if_pos rfl]; rfl
theorem l_base_product {L k i : Nat} {d : Nat → Nat} (hi : i ≤ 40) (hL : i ≤ L) (h1 : ¬ sgn L 40 d i = 42) (h2 : ¬ sgn L 40 d i = 47) : lOK_product L d k i := by
  have hr : ¬ rkO (sgn L 40 d i) = nI 2 := fun q => by
    rcases rk_of.1 q with w | w
    · exact h1 w
    · exact h2 w
  refine Or.inl ⟨i, [], fun _ acc => acc, Nat.le_refl i, hi, hL, by show 0 + i ≤ i; omega, fun fu fl σ q D x6 hf hfl hx hX hq => ?_, fun fu fl τ acc hf hfl hm => ?_, fun e fu fl τ acc hf hfl hm => ?_, fun e acc st => rfl⟩
  · obtain ⟨fl, rfl⟩ : ∃ f', fl = f' + 1 := ⟨fl - 1, by omega⟩
    rw [st_product_Cno _ _ _ hX hi hr]; rfl
  · obtain ⟨fl, rfl⟩ : ∃ f', fl = f' + 1 := ⟨fl - 1, by omega⟩
    exact ⟨acc, st_product_Tno _ _ _ hm.1 h1 h2⟩
  · obtain ⟨fl, rfl⟩ : ∃ f', fl = f' + 1 := ⟨fl - 1, by omega⟩
    exact st_product_Rno _ _ _ hm.1 h1 h2
theorem l_step_product42 {L k i : Nat} {d : Nat → Nat} (hd : ∀ j, j < L → d j < 256) (hs : sIn L 40 d i 42 42) (hsub : pOK L d 3 2 57 k (i + 1)) (ih : ∀ j, i < j → j ≤ 40 → j ≤ L → lOK_product L d k j) : lOK_product L d k i := by
  have h1 := hs.1
  have h2 := hs.2.1
  have hdi : d i = 42 := by have := hs.2.2.1; have := hs.2.2.2; omega
  have hsg : sgn L 40 d i = 42 := (sIn_eq (a := 42) hd (by omega)).2 hs
  rcases hsub with ⟨j1, C1, ev1, a1, a2, a3, a4, a5, a6, a7, a8⟩ | ⟨e, a1, a2, a3⟩
  · rcases ih j1 (by omega) a2 a3 with ⟨j2, C2, ev2, b1, b2, b3, b4, b5, b6, b7, b8⟩ | ⟨e, b1, b2, b3⟩
    · refine Or.inl ⟨j2, C1 ++ ((3000 + nI 42) :: C2), fun e acc => ev2 e (acc * ev1 e), by omega, b2, b3, ?_, fun fu fl σ q D x6 hf hfl hx hX hq => ?_, fun fu fl τ acc hf hfl hm => ?_, fun e fu fl τ acc hf hfl hm => ?_, fun e acc st => ?_⟩
      · rw [List.length_append, List.length_cons]; omega
      · obtain ⟨fl, rfl⟩ : ∃ f', fl = f' + 1 := ⟨fl - 1, by omega⟩
        rw [st_product_C _ _ hX (by omega) h1 h2 hdi (by decide), a5 fu σ q D (by omega) hX (by omega)]
        simp only [bnd]
        rw [cq_write (by omega)]
        simp only [bnd]
        rw [b5 fu fl σ (q + C1.length + 1) _ (x6 + 1) hf (by omega) (by omega) hX (by omega), wr_app, List.length_append, List.length_cons, show q + C1.length + 1 + C2.length = q + (C1.length + (C2.length + 1)) by omega]
        rfl
      · obtain ⟨fl, rfl⟩ : ∃ f', fl = f' + 1 := ⟨fl - 1, by omega⟩
        obtain ⟨v, w⟩ := a6 fu (gs τ 4176 (nI (i + 1))) (by omega) (mT_1 hm (by omega))
        rw [st_product_T42 _ _ _ hm.1 hsg, w]
        simp only [bnd]
        rw [gs_gs]
        obtain ⟨v2, w2⟩ := b6 fu fl (gs τ 4176 (nI j1)) _ (by omega) (by omega) (mT_1 hm (by omega))
        refine ⟨v2, w2.trans ?_⟩
        rw [gs_gs]
      · obtain ⟨fl, rfl⟩ : ∃ f', fl = f' + 1 := ⟨fl - 1, by omega⟩
        rw [st_product_R42 _ _ _ hm.1 hsg, a7 e fu (gs τ 4176 (nI (i + 1))) (by omega) (nT_1 hm (by omega))]
        simp only [bnd]
        rw [gs_gs, b7 e fu fl (gs τ 4176 (nI j1)) _ (by omega) (by omega) (nT_1 hm (by omega)), gs_gs]
      · rw [rnL_app, a8]
        show rnL e C2 (rn1 e (3000 + nI 42) (ev1 e :: acc :: st)) = _
        rw [rn_join (by omega), b8]
        rfl
    · refine Or.inr ⟨e, b1, fun fu fl σ q D x6 hf hfl hx hX hq => ?_, fun fu fl τ acc hf hfl hm => ?_⟩
      · obtain ⟨fl, rfl⟩ : ∃ f', fl = f' + 1 := ⟨fl - 1, by omega⟩
        rw [st_product_C _ _ hX (by omega) h1 h2 hdi (by decide), a5 fu σ q D (by omega) hX (by omega)]
        simp only [bnd]
        rw [cq_write (by omega)]
        simp only [bnd]
        exact b2 fu fl σ (q + C1.length + 1) _ (x6 + 1) hf (by omega) (by omega) hX (by omega)
      · obtain ⟨fl, rfl⟩ : ∃ f', fl = f' + 1 := ⟨fl - 1, by omega⟩
        obtain ⟨v, w⟩ := a6 fu (gs τ 4176 (nI (i + 1))) (by omega) (mT_1 hm (by omega))
        rw [st_product_T42 _ _ _ hm.1 hsg, w]
        simp only [bnd]
        rw [gs_gs]
        obtain ⟨v2, a, w2⟩ := b3 fu fl (gs τ 4176 (nI j1)) _ (by omega) (by omega) (mT_1 hm (by omega))
        refine ⟨v2, a, w2.trans ?_⟩
        rw [gs_gs]
  · refine Or.inr ⟨e, a1, fun fu fl σ q D x6 hf hfl hx hX hq => ?_, fun fu fl τ acc hf hfl hm => ?_⟩
    · obtain ⟨fl, rfl⟩ : ∃ f', fl = f' + 2 := ⟨fl - 2, by omega⟩
      obtain ⟨q', D', w1, w2⟩ := a2 fu σ q D (by omega) hX (by omega)
      obtain ⟨q2, D2, u1, u2⟩ := cq_write40 (i := e) (x := 3000 + nI 42) (σ := σ) (D := D') w1
      rw [st_product_C _ _ hX (by omega) h1 h2 hdi (by decide), w2]
      simp only [bnd]
      rw [u2]
      simp only [bnd]
      exact ⟨q2, D2, u1, st_product_C0 _ _ _ _⟩
    · obtain ⟨fl, rfl⟩ : ∃ f', fl = f' + 2 := ⟨fl - 2, by omega⟩
      obtain ⟨v, a, w⟩ := a3 fu (gs τ 4176 (nI (i + 1))) (by omega) (mT_1 hm (by omega))
      rw [st_product_T42 _ _ _ hm.1 hsg, w]
      simp only [bnd]
      rw [gs_gs, st_product_bad _ _ _ (show ¬ (gs (gs τ 4176 a) 4177 (nI e)).1 4177 = -1 from ja_neg1 (k := e) (by omega))]
      exact ⟨_, _, rfl⟩
theorem l_step_product47 {L k i : Nat} {d : Nat → Nat} (hd : ∀ j, j < L → d j < 256) (hs : sIn L 40 d i 47 47) (hsub : pOK L d 3 2 57 k (i + 1)) (ih : ∀ j, i < j → j ≤ 40 → j ≤ L → lOK_product L d k j) : lOK_product L d k i := by
  have h1 := hs.1
  have h2 := hs.2.1
  have hdi : d i = 47 := by have := hs.2.2.1; have := hs.2.2.2; omega
  have hsg : sgn L 40 d i = 47 := (sIn_eq (a := 47) hd (by omega)).2 hs
  rcases hsub with ⟨j1, C1, ev1, a1, a2, a3, a4, a5, a6, a7, a8⟩ | ⟨e, a1, a2, a3⟩
  · rcases ih j1 (by omega) a2 a3 with ⟨j2, C2, ev2, b1, b2, b3, b4, b5, b6, b7, b8⟩ | ⟨e, b1, b2, b3⟩
    · refine Or.inl ⟨j2, C1 ++ ((3000 + nI 47) :: C2), fun e acc => ev2 e ((if ¬ ev1 e = 0 then acc / ev1 e else 0)), by omega, b2, b3, ?_, fun fu fl σ q D x6 hf hfl hx hX hq => ?_, fun fu fl τ acc hf hfl hm => ?_, fun e fu fl τ acc hf hfl hm => ?_, fun e acc st => ?_⟩
      · rw [List.length_append, List.length_cons]; omega
      · obtain ⟨fl, rfl⟩ : ∃ f', fl = f' + 1 := ⟨fl - 1, by omega⟩
        rw [st_product_C _ _ hX (by omega) h1 h2 hdi (by decide), a5 fu σ q D (by omega) hX (by omega)]
        simp only [bnd]
        rw [cq_write (by omega)]
        simp only [bnd]
        rw [b5 fu fl σ (q + C1.length + 1) _ (x6 + 1) hf (by omega) (by omega) hX (by omega), wr_app, List.length_append, List.length_cons, show q + C1.length + 1 + C2.length = q + (C1.length + (C2.length + 1)) by omega]
        rfl
      · obtain ⟨fl, rfl⟩ : ∃ f', fl = f' + 1 := ⟨fl - 1, by omega⟩
        obtain ⟨v, w⟩ := a6 fu (gs τ 4176 (nI (i + 1))) (by omega) (mT_1 hm (by omega))
        rw [st_product_T47 _ _ _ hm.1 hsg, w]
        simp only [bnd]
        rw [gs_gs]
        obtain ⟨v2, w2⟩ := b6 fu fl (gs τ 4176 (nI j1)) _ (by omega) (by omega) (mT_1 hm (by omega))
        refine ⟨v2, w2.trans ?_⟩
        rw [gs_gs]
      · obtain ⟨fl, rfl⟩ : ∃ f', fl = f' + 1 := ⟨fl - 1, by omega⟩
        rw [st_product_R47 _ _ _ hm.1 hsg, a7 e fu (gs τ 4176 (nI (i + 1))) (by omega) (nT_1 hm (by omega))]
        simp only [bnd]
        rw [gs_gs, b7 e fu fl (gs τ 4176 (nI j1)) _ (by omega) (by omega) (nT_1 hm (by omega)), gs_gs]
      · rw [rnL_app, a8]
        show rnL e C2 (rn1 e (3000 + nI 47) (ev1 e :: acc :: st)) = _
        rw [rn_join (by omega), b8]
        rfl
    · refine Or.inr ⟨e, b1, fun fu fl σ q D x6 hf hfl hx hX hq => ?_, fun fu fl τ acc hf hfl hm => ?_⟩
      · obtain ⟨fl, rfl⟩ : ∃ f', fl = f' + 1 := ⟨fl - 1, by omega⟩
        rw [st_product_C _ _ hX (by omega) h1 h2 hdi (by decide), a5 fu σ q D (by omega) hX (by omega)]
        simp only [bnd]
        rw [cq_write (by omega)]
        simp only [bnd]
        exact b2 fu fl σ (q + C1.length + 1) _ (x6 + 1) hf (by omega) (by omega) hX (by omega)
      · obtain ⟨fl, rfl⟩ : ∃ f', fl = f' + 1 := ⟨fl - 1, by omega⟩
        obtain ⟨v, w⟩ := a6 fu (gs τ 4176 (nI (i + 1))) (by omega) (mT_1 hm (by omega))
        rw [st_product_T47 _ _ _ hm.1 hsg, w]
        simp only [bnd]
        rw [gs_gs]
        obtain ⟨v2, a, w2⟩ := b3 fu fl (gs τ 4176 (nI j1)) _ (by omega) (by omega) (mT_1 hm (by omega))
        refine ⟨v2, a, w2.trans ?_⟩
        rw [gs_gs]
  · refine Or.inr ⟨e, a1, fun fu fl σ q D x6 hf hfl hx hX hq => ?_, fun fu fl τ acc hf hfl hm => ?_⟩
    · obtain ⟨fl, rfl⟩ : ∃ f', fl = f' + 2 := ⟨fl - 2, by omega⟩
      obtain ⟨q', D', w1, w2⟩ := a2 fu σ q D (by omega) hX (by omega)
      obtain ⟨q2, D2, u1, u2⟩ := cq_write40 (i := e) (x := 3000 + nI 47) (σ := σ) (D := D') w1
      rw [st_product_C _ _ hX (by omega) h1 h2 hdi (by decide), w2]
      simp only [bnd]
      rw [u2]
      simp only [bnd]
      exact ⟨q2, D2, u1, st_product_C0 _ _ _ _⟩
    · obtain ⟨fl, rfl⟩ : ∃ f', fl = f' + 2 := ⟨fl - 2, by omega⟩
      obtain ⟨v, a, w⟩ := a3 fu (gs τ 4176 (nI (i + 1))) (by omega) (mT_1 hm (by omega))
      rw [st_product_T47 _ _ _ hm.1 hsg, w]
      simp only [bnd]
      rw [gs_gs, st_product_bad _ _ _ (show ¬ (gs (gs τ 4176 a) 4177 (nI e)).1 4177 = -1 from ja_neg1 (k := e) (by omega))]
      exact ⟨_, _, rfl⟩
theorem l_ok_product {L k : Nat} {d : Nat → Nat} (hd : ∀ j, j < L → d j < 256) (hsub : ∀ i, i ≤ 40 → i ≤ L → pOK L d 3 2 57 k i) : ∀ m i, 40 ≤ i + m → i ≤ 40 → i ≤ L → lOK_product L d k i := by
  intro m
  induction m with
  | zero =>
    intro i hm hi hL
    have e : sgn L 40 d i = -1 := sgn_f (by omega)
    exact l_base_product hi hL (by rw [e]; decide) (by rw [e]; decide)
  | succ m ih =>
    intro i hm hi hL
    by_cases z1 : sIn L 40 d i 42 42
    · have q1 := z1.1
      have q2 := z1.2.1
      exact l_step_product42 hd z1 (hsub (i + 1) (by omega) (by omega)) (fun j u1 u2 u3 => ih j (by omega) u2 u3)
    by_cases z2 : sIn L 40 d i 47 47
    · have q1 := z2.1
      have q2 := z2.2.1
      exact l_step_product47 hd z2 (hsub (i + 1) (by omega) (by omega)) (fun j u1 u2 u3 => ih j (by omega) u2 u3)
    exact l_base_product hi hL (fun q => z1 ((sIn_eq (a := 42) hd (by omega)).1 q)) (fun q => z2 ((sIn_eq (a := 47) hd (by omega)).1 q))
theorem rec_product (fu k : Nat) (s : jT) : f_rec0 (fu + 1) 0 [nI 2, nI k] s = (f_rec0 fu 0 [nI 3, nI k] s).bind fun q2 => f_X7_takeJoined_1_b38 (f_rec0 fu) 1000 (nI 2) (nI k) q2.1 40 (nI 0) q2.2 := by
  show f_X7_takeJoined_1 (f_rec0 fu) (nI 2) (nI k) s = _
  unfold f_X7_takeJoined_1
  rw [if_pos (by decide), show nI 2 + 1 = nI 3 from rfl]
  refine congrArg (fun f => Option.bind (f_rec0 fu 0 [nI 3, nI k] s) f) (funext fun q2 => ?_)
  rw [if_pos (show ¬ nI 2 = 0 by decide)]
  unfold f_X7_takeJoined_1_b33
  rw [show (0 : Int32) = nI 0 from rfl]
theorem p_ok_product {L k i : Nat} {d : Nat → Nat} (hd : ∀ j, j < L → d j < 256) (hk : k ≤ 4) (hsub : ∀ i, i ≤ 40 → i ≤ L → pOK L d 3 2 57 k i) (hi : i ≤ 40) (hL : i ≤ L) : pOK L d 2 1 58 k i := by
  rcases hsub i hi hL with ⟨j1, C1, ev1, a1, a2, a3, a4, a5, a6, a7, a8⟩ | ⟨e, a1, a2, a3⟩
  · rcases l_ok_product hd hsub 40 j1 (by omega) a2 a3 with ⟨j2, C2, ev2, b1, b2, b3, b4, b5, b6, b7, b8⟩ | ⟨e, b1, b2, b3⟩
    · refine Or.inl ⟨j2, C1 ++ C2, fun e => ev2 e (ev1 e), by omega, b2, b3, ?_, fun fu σ q D hf hX hq => ?_, fun fu τ hf hm => ?_, fun e fu τ hf hm => ?_, fun e st => ?_⟩
      · rw [List.length_append]; omega
      · obtain ⟨fu, rfl⟩ : ∃ f', fu = f' + 1 := ⟨fu - 1, by omega⟩
        rw [rec_product, a5 fu σ q D (by omega) hX (by omega)]
        simp only [bnd]
        rw [b5 fu 1000 σ (q + C1.length) _ 0 (by omega) (by omega) (by omega) hX (by omega), wr_app, List.length_append, show q + C1.length + C2.length = q + (C1.length + C2.length) by omega]
      · obtain ⟨fu, rfl⟩ : ∃ f', fu = f' + 1 := ⟨fu - 1, by omega⟩
        obtain ⟨v, w⟩ := a6 fu τ (by omega) hm
        show ∃ v, f_X11_product_T (f_rec2 fu) (nI k) τ = _
        unfold f_X11_product_T
        rw [w]
        simp only [bnd]
        obtain ⟨v2, w2⟩ := b6 fu 1000 (gs τ 4176 (nI j1)) v (by omega) (by omega) (mT_1 hm (by omega))
        refine ⟨v2, w2.trans ?_⟩
        rw [gs_gs]
      · obtain ⟨fu, rfl⟩ : ∃ f', fu = f' + 1 := ⟨fu - 1, by omega⟩
        show f_X11_product_R (f_rec3 fu) (nI k) τ = _
        unfold f_X11_product_R
        rw [a7 e fu τ (by omega) hm]
        simp only [bnd]
        rw [b7 e fu 1000 (gs τ 4176 (nI j1)) _ (by omega) (by omega) (nT_1 hm (by omega)), gs_gs]
      · rw [rnL_app, a8, b8]
    · refine Or.inr ⟨e, b1, fun fu σ q D hf hX hq => ?_, fun fu τ hf hm => ?_⟩
      · obtain ⟨fu, rfl⟩ : ∃ f', fu = f' + 1 := ⟨fu - 1, by omega⟩
        rw [rec_product, a5 fu σ q D (by omega) hX (by omega)]
        simp only [bnd]
        exact b2 fu 1000 σ (q + C1.length) _ 0 (by omega) (by omega) (by omega) hX (by omega)
      · obtain ⟨fu, rfl⟩ : ∃ f', fu = f' + 1 := ⟨fu - 1, by omega⟩
        obtain ⟨v, w⟩ := a6 fu τ (by omega) hm
        show ∃ v a, f_X11_product_T (f_rec2 fu) (nI k) τ = _
        unfold f_X11_product_T
        rw [w]
        simp only [bnd]
        obtain ⟨v2, a, w2⟩ := b3 fu 1000 (gs τ 4176 (nI j1)) v (by omega) (by omega) (mT_1 hm (by omega))
        refine ⟨v2, a, w2.trans ?_⟩
        rw [gs_gs]
  · refine Or.inr ⟨e, a1, fun fu σ q D hf hX hq => ?_, fun fu τ hf hm => ?_⟩
    · obtain ⟨fu, rfl⟩ : ∃ f', fu = f' + 1 := ⟨fu - 1, by omega⟩
      obtain ⟨q', D', w1, w2⟩ := a2 fu σ q D (by omega) hX (by omega)
      refine ⟨q', D', w1, ?_⟩
      rw [rec_product, w2]
      simp only [bnd]
      exact st_product_C0 _ _ _ _
    · obtain ⟨fu, rfl⟩ : ∃ f', fu = f' + 1 := ⟨fu - 1, by omega⟩
      obtain ⟨v, a, w⟩ := a3 fu τ (by omega) hm
      show ∃ v a, f_X11_product_T (f_rec2 fu) (nI k) τ = _
      unfold f_X11_product_T
      rw [w]
      simp only [bnd]
      exact ⟨v, a, st_product_bad _ _ _ (show ¬ (gs (gs τ 4176 a) 4177 (nI e)).1 4177 = -1 from ja_neg1 (k := e) (by omega))⟩
/-- sums from i on, behind the first -/
def lOK_sum (L : Nat) (d : Nat → Nat) (k i : Nat) : Prop :=
  (∃ (j : Nat) (C : List Int32) (ev : (Nat → Int32) → Int32 → Int32), i ≤ j ∧ j ≤ 40 ∧ j ≤ L ∧ C.length + i ≤ j ∧
    (∀ (fu fl : Nat) (σ : jT) (q : Nat) (D : Nat → Int32) (x6 : Nat), 6 * (4 - k) + 6 ≤ fu + 2 → 40 < fl + i → x6 ≤ i → bX L 40 d σ → q ≤ i → f_X7_takeJoined_1_b38 (f_rec0 fu) fl (nI 1) (nI k) 1 40 (nI x6) (cQ σ i q D) = some (1, cQ σ j (q + C.length) (wr D q C))) ∧
    (∀ (fu fl : Nat) (τ : jT) (acc : Int32), 58 ≤ fu + i + 4 * k → 40 < fl + i → mT L d i τ → ∃ v, f_X11_sum_T_b6 (f_rec2 fu) fl (nI k) acc τ = some (v, gs τ 4176 (nI j))) ∧
    (∀ (e : Nat → Int32) (fu fl : Nat) (τ : jT) (acc : Int32), 58 ≤ fu + i + 4 * k → 40 < fl + i → nT L d i e τ → f_X11_sum_R_b6 (f_rec3 fu) fl (nI k) acc τ = some (ev e acc, gs τ 4176 (nI j))) ∧
    ∀ e acc st, rnL e C (acc :: st) = ev e acc :: st) ∨
  ∃ e, e ≤ 40 ∧ (∀ (fu fl : Nat) (σ : jT) (q : Nat) (D : Nat → Int32) (x6 : Nat), 6 * (4 - k) + 6 ≤ fu + 2 → 40 < fl + i → x6 ≤ i → bX L 40 d σ → q ≤ i → ∃ q' D', q' ≤ 40 ∧ f_X7_takeJoined_1_b38 (f_rec0 fu) fl (nI 1) (nI k) 1 40 (nI x6) (cQ σ i q D) = some (0, cQ σ e q' D')) ∧
    (∀ (fu fl : Nat) (τ : jT) (acc : Int32), 58 ≤ fu + i + 4 * k → 40 < fl + i → mT L d i τ → ∃ v a, f_X11_sum_T_b6 (f_rec2 fu) fl (nI k) acc τ = some (v, gs (gs τ 4176 a) 4177 (nI e)))
theorem st_sum_T43 (rec : Nat → List Int32 → jT → Option (Int32 × jT)) {L i fl : Nat} {d : Nat → Nat} {τ : jT} (x acc : Int32) (h : mX L 40 i d τ) (hs : sgn L 40 d i = 43) : f_X11_sum_T_b6 rec (fl + 1) x acc τ = (rec 1 [x] (gs τ 4176 (nI (i + 1)))).bind fun q1 => f_X11_sum_T_b6 rec fl x (acc + q1.1) q1.2 := by
  have hh : f_X11_here_T τ = some (43, τ) := by rw [m_here h, hs]
  rw [f_X11_sum_T_b6, m_fine h.2.2.2.2.2.2.1]
  simp only [bnd]
  rw [if_neg (show ¬ (1 : Int32) = 0 by decide), hh]
  simp only [bnd]
  rw [iT]
  unfold f_X11_sum_T_b31
  rw [hh]
  simp only [bnd]
  rw [iNT]
  unfold f_X11_sum_T_b45
  rw [h.2.2.2.2.2.1, nS]
  refine congrArg (fun f => Option.bind (rec 1 [x] (gs τ 4176 (nI (i + 1)))) f) (funext fun q1 => ?_)
  rw [if_neg (show ¬ (1 : Int32) = 0 by decide)]
  rfl
theorem st_sum_T45 (rec : Nat → List Int32 → jT → Option (Int32 × jT)) {L i fl : Nat} {d : Nat → Nat} {τ : jT} (x acc : Int32) (h : mX L 40 i d τ) (hs : sgn L 40 d i = 45) : f_X11_sum_T_b6 rec (fl + 1) x acc τ = (rec 1 [x] (gs τ 4176 (nI (i + 1)))).bind fun q1 => f_X11_sum_T_b6 rec fl x (acc - q1.1) q1.2 := by
  have hh : f_X11_here_T τ = some (45, τ) := by rw [m_here h, hs]
  rw [f_X11_sum_T_b6, m_fine h.2.2.2.2.2.2.1]
  simp only [bnd]
  rw [if_neg (show ¬ (1 : Int32) = 0 by decide), hh]
  simp only [bnd]
  rw [if_neg (show ¬ (45 : Int32) = 43 by decide), hh]
  simp only [bnd]
  rw [iNT]
  unfold f_X11_sum_T_b31
  rw [hh]
  simp only [bnd]
  rw [if_pos (show ¬ (45 : Int32) = 43 by decide)]
  unfold f_X11_sum_T_b45
  rw [h.2.2.2.2.2.1, nS]
  refine congrArg (fun f => Option.bind (rec 1 [x] (gs τ 4176 (nI (i + 1)))) f) (funext fun q1 => ?_)
  rw [if_pos rfl]
  rfl
theorem st_sum_Tno (rec : Nat → List Int32 → jT → Option (Int32 × jT)) {L i fl : Nat} {d : Nat → Nat} {τ : jT} (x acc : Int32) (h : mX L 40 i d τ) (h1 : ¬ sgn L 40 d i = 43) (h2 : ¬ sgn L 40 d i = 45) : f_X11_sum_T_b6 rec (fl + 1) x acc τ = some (acc, gs τ 4176 (nI i)) := by
  rw [f_X11_sum_T_b6, m_fine h.2.2.2.2.2.2.1]
  simp only [bnd]
  rw [if_neg (show ¬ (1 : Int32) = 0 by decide), m_here h]
  simp only [bnd]
  rw [if_neg h1, m_here h]
  simp only [bnd]
  rw [if_pos h2, gs_same h.2.2.2.2.2.1]
theorem st_sum_R43 (rec : Nat → List Int32 → jT → Option (Int32 × jT)) {L i fl : Nat} {d : Nat → Nat} {τ : jT} (x acc : Int32) (h : nX L i d τ) (hs : sgn L 40 d i = 43) : f_X11_sum_R_b6 rec (fl + 1) x acc τ = (rec 1 [x] (gs τ 4176 (nI (i + 1)))).bind fun q1 => f_X11_sum_R_b6 rec fl x (acc + q1.1) q1.2 := by
  have hh : f_X11_here_R τ = some (43, τ) := by rw [n_here h, hs]
  rw [f_X11_sum_R_b6, m_fine h.2.2.2.2.2.1]
  simp only [bnd]
  rw [if_neg (show ¬ (1 : Int32) = 0 by decide), hh]
  simp only [bnd]
  rw [iT]
  unfold f_X11_sum_R_b31
  rw [hh]
  simp only [bnd]
  rw [iNT]
  unfold f_X11_sum_R_b45
  rw [h.2.2.2.2.1, nS]
  refine congrArg (fun f => Option.bind (rec 1 [x] (gs τ 4176 (nI (i + 1)))) f) (funext fun q1 => ?_)
  rw [if_neg (show ¬ (1 : Int32) = 0 by decide)]
  rfl
theorem st_sum_R45 (rec : Nat → List Int32 → jT → Option (Int32 × jT)) {L i fl : Nat} {d : Nat → Nat} {τ : jT} (x acc : Int32) (h : nX L i d τ) (hs : sgn L 40 d i = 45) : f_X11_sum_R_b6 rec (fl + 1) x acc τ = (rec 1 [x] (gs τ 4176 (nI (i + 1)))).bind fun q1 => f_X11_sum_R_b6 rec fl x (acc - q1.1) q1.2 := by
  have hh : f_X11_here_R τ = some (45, τ) := by rw [n_here h, hs]
  rw [f_X11_sum_R_b6, m_fine h.2.2.2.2.2.1]
  simp only [bnd]
  rw [if_neg (show ¬ (1 : Int32) = 0 by decide), hh]
  simp only [bnd]
  rw [if_neg (show ¬ (45 : Int32) = 43 by decide), hh]
  simp only [bnd]
  rw [iNT]
  unfold f_X11_sum_R_b31
  rw [hh]
  simp only [bnd]
  rw [if_pos (show ¬ (45 : Int32) = 43 by decide)]
  unfold f_X11_sum_R_b45
  rw [h.2.2.2.2.1, nS]
  refine congrArg (fun f => Option.bind (rec 1 [x] (gs τ 4176 (nI (i + 1)))) f) (funext fun q1 => ?_)
  rw [if_pos rfl]
  rfl
theorem st_sum_Rno (rec : Nat → List Int32 → jT → Option (Int32 × jT)) {L i fl : Nat} {d : Nat → Nat} {τ : jT} (x acc : Int32) (h : nX L i d τ) (h1 : ¬ sgn L 40 d i = 43) (h2 : ¬ sgn L 40 d i = 45) : f_X11_sum_R_b6 rec (fl + 1) x acc τ = some (acc, gs τ 4176 (nI i)) := by
  rw [f_X11_sum_R_b6, m_fine h.2.2.2.2.2.1]
  simp only [bnd]
  rw [if_neg (show ¬ (1 : Int32) = 0 by decide), n_here h]
  simp only [bnd]
  rw [if_neg h1, n_here h]
  simp only [bnd]
  rw [if_pos h2, gs_same h.2.2.2.2.1]
theorem st_sum_bad (rec : Nat → List Int32 → jT → Option (Int32 × jT)) {fl : Nat} {τ : jT} (x acc : Int32) (h : ¬ τ.1 4177 = -1) : f_X11_sum_T_b6 rec (fl + 1) x acc τ = some (acc, τ) := by
  rw [f_X11_sum_T_b6, m_fine0 h]
  simp only [bnd]
  rw [iT]
theorem st_sum_C (rec : Nat → List Int32 → jT → Option (Int32 × jT)) {L i q fl x6 c : Nat} {d : Nat → Nat} {σ : jT} {D : Nat → Int32} (x : Int32) (h : bX L 40 d σ) (hx : x6 < 40) (h1 : i < 40) (h2 : i < L) (hc : d i = c) (hr : rkO (nI c) = nI 1) : f_X7_takeJoined_1_b38 rec (fl + 1) (nI 1) x 1 40 (nI x6) (cQ σ i q D) = (rec 0 [nI 2, x] (cQ σ (i + 1) q D)).bind fun q10 => (f_X7_write (3000 + nI c) q10.2).bind fun q11 => f_X7_takeJoined_1_b38 rec fl (nI 1) x q10.1 40 (nI (x6 + 1)) q11.2 := by
  rw [f_X7_takeJoined_1_b38, if_neg (show ¬ (40 : Int32) ≤ nI x6 from nI_ge (b := 40) hx (by omega)), if_neg (show ¬ (1 : Int32) = 0 by decide), cq_peek h (by omega), sgn_t h1 h2, hc]
  simp only [bnd]
  rw [c_rank]
  simp only [bnd]
  rw [hr, if_neg (fun w => w rfl), cq_next h h1 h2, hc]
  simp only [bnd]
  rw [nS, nS]
theorem st_sum_Cno (rec : Nat → List Int32 → jT → Option (Int32 × jT)) {L i q fl : Nat} {d : Nat → Nat} {σ : jT} {D : Nat → Int32} (x y : Int32) (h : bX L 40 d σ) (hi : i ≤ 40) (hr : ¬ rkO (sgn L 40 d i) = nI 1) : f_X7_takeJoined_1_b38 rec (fl + 1) (nI 1) x 1 40 y (cQ σ i q D) = some (1, cQ σ i q D) := by
  rw [f_X7_takeJoined_1_b38, if_pos (show (1 : Int32) = 0 ∨ (1 : Int32) = 1 by decide), if_neg (show ¬ (1 : Int32) = 0 by decide), cq_peek h (by omega)]
  simp only [bnd]
  rw [c_rank]
  simp only [bnd]
  rw [if_pos hr]
  split <;> rfl
theorem st_sum_C0 (rec : Nat → List Int32 → jT → Option (Int32 × jT)) {fl : Nat} {s : jT} (x y z : Int32) : f_X7_takeJoined_1_b38 rec (fl + 1) (nI 1) x 0 y z s = some (0, s) := by
  rw [f_X7_takeJoined_1_b38]
  split
  · rfl
  · rw [if_pos rfl]; rfl
theorem l_base_sum {L k i : Nat} {d : Nat → Nat} (hi : i ≤ 40) (hL : i ≤ L) (h1 : ¬ sgn L 40 d i = 43) (h2 : ¬ sgn L 40 d i = 45) : lOK_sum L d k i := by
  have hr : ¬ rkO (sgn L 40 d i) = nI 1 := fun q => by
    rcases rk_of.2.1 q with w | w
    · exact h1 w
    · exact h2 w
  refine Or.inl ⟨i, [], fun _ acc => acc, Nat.le_refl i, hi, hL, by show 0 + i ≤ i; omega, fun fu fl σ q D x6 hf hfl hx hX hq => ?_, fun fu fl τ acc hf hfl hm => ?_, fun e fu fl τ acc hf hfl hm => ?_, fun e acc st => rfl⟩
  · obtain ⟨fl, rfl⟩ : ∃ f', fl = f' + 1 := ⟨fl - 1, by omega⟩
    rw [st_sum_Cno _ _ _ hX hi hr]; rfl
  · obtain ⟨fl, rfl⟩ : ∃ f', fl = f' + 1 := ⟨fl - 1, by omega⟩
    exact ⟨acc, st_sum_Tno _ _ _ hm.1 h1 h2⟩
  · obtain ⟨fl, rfl⟩ : ∃ f', fl = f' + 1 := ⟨fl - 1, by omega⟩
    exact st_sum_Rno _ _ _ hm.1 h1 h2
theorem l_step_sum43 {L k i : Nat} {d : Nat → Nat} (hd : ∀ j, j < L → d j < 256) (hs : sIn L 40 d i 43 43) (hsub : pOK L d 2 1 58 k (i + 1)) (ih : ∀ j, i < j → j ≤ 40 → j ≤ L → lOK_sum L d k j) : lOK_sum L d k i := by
  have h1 := hs.1
  have h2 := hs.2.1
  have hdi : d i = 43 := by have := hs.2.2.1; have := hs.2.2.2; omega
  have hsg : sgn L 40 d i = 43 := (sIn_eq (a := 43) hd (by omega)).2 hs
  rcases hsub with ⟨j1, C1, ev1, a1, a2, a3, a4, a5, a6, a7, a8⟩ | ⟨e, a1, a2, a3⟩
  · rcases ih j1 (by omega) a2 a3 with ⟨j2, C2, ev2, b1, b2, b3, b4, b5, b6, b7, b8⟩ | ⟨e, b1, b2, b3⟩
    · refine Or.inl ⟨j2, C1 ++ ((3000 + nI 43) :: C2), fun e acc => ev2 e (acc + ev1 e), by omega, b2, b3, ?_, fun fu fl σ q D x6 hf hfl hx hX hq => ?_, fun fu fl τ acc hf hfl hm => ?_, fun e fu fl τ acc hf hfl hm => ?_, fun e acc st => ?_⟩
      · rw [List.length_append, List.length_cons]; omega
      · obtain ⟨fl, rfl⟩ : ∃ f', fl = f' + 1 := ⟨fl - 1, by omega⟩
        rw [st_sum_C _ _ hX (by omega) h1 h2 hdi (by decide), a5 fu σ q D (by omega) hX (by omega)]
        simp only [bnd]
        rw [cq_write (by omega)]
        simp only [bnd]
        rw [b5 fu fl σ (q + C1.length + 1) _ (x6 + 1) hf (by omega) (by omega) hX (by omega), wr_app, List.length_append, List.length_cons, show q + C1.length + 1 + C2.length = q + (C1.length + (C2.length + 1)) by omega]
        rfl
      · obtain ⟨fl, rfl⟩ : ∃ f', fl = f' + 1 := ⟨fl - 1, by omega⟩
        obtain ⟨v, w⟩ := a6 fu (gs τ 4176 (nI (i + 1))) (by omega) (mT_1 hm (by omega))
        rw [st_sum_T43 _ _ _ hm.1 hsg, w]
        simp only [bnd]
        rw [gs_gs]
        obtain ⟨v2, w2⟩ := b6 fu fl (gs τ 4176 (nI j1)) _ (by omega) (by omega) (mT_1 hm (by omega))
        refine ⟨v2, w2.trans ?_⟩
        rw [gs_gs]
      · obtain ⟨fl, rfl⟩ : ∃ f', fl = f' + 1 := ⟨fl - 1, by omega⟩
        rw [st_sum_R43 _ _ _ hm.1 hsg, a7 e fu (gs τ 4176 (nI (i + 1))) (by omega) (nT_1 hm (by omega))]
        simp only [bnd]
        rw [gs_gs, b7 e fu fl (gs τ 4176 (nI j1)) _ (by omega) (by omega) (nT_1 hm (by omega)), gs_gs]
      · rw [rnL_app, a8]
        show rnL e C2 (rn1 e (3000 + nI 43) (ev1 e :: acc :: st)) = _
        rw [rn_join (by omega), b8]
        rfl
    · refine Or.inr ⟨e, b1, fun fu fl σ q D x6 hf hfl hx hX hq => ?_, fun fu fl τ acc hf hfl hm => ?_⟩
      · obtain ⟨fl, rfl⟩ : ∃ f', fl = f' + 1 := ⟨fl - 1, by omega⟩
        rw [st_sum_C _ _ hX (by omega) h1 h2 hdi (by decide), a5 fu σ q D (by omega) hX (by omega)]
        simp only [bnd]
        rw [cq_write (by omega)]
        simp only [bnd]
        exact b2 fu fl σ (q + C1.length + 1) _ (x6 + 1) hf (by omega) (by omega) hX (by omega)
      · obtain ⟨fl, rfl⟩ : ∃ f', fl = f' + 1 := ⟨fl - 1, by omega⟩
        obtain ⟨v, w⟩ := a6 fu (gs τ 4176 (nI (i + 1))) (by omega) (mT_1 hm (by omega))
        rw [st_sum_T43 _ _ _ hm.1 hsg, w]
        simp only [bnd]
        rw [gs_gs]
        obtain ⟨v2, a, w2⟩ := b3 fu fl (gs τ 4176 (nI j1)) _ (by omega) (by omega) (mT_1 hm (by omega))
        refine ⟨v2, a, w2.trans ?_⟩
        rw [gs_gs]
  · refine Or.inr ⟨e, a1, fun fu fl σ q D x6 hf hfl hx hX hq => ?_, fun fu fl τ acc hf hfl hm => ?_⟩
    · obtain ⟨fl, rfl⟩ : ∃ f', fl = f' + 2 := ⟨fl - 2, by omega⟩
      obtain ⟨q', D', w1, w2⟩ := a2 fu σ q D (by omega) hX (by omega)
      obtain ⟨q2, D2, u1, u2⟩ := cq_write40 (i := e) (x := 3000 + nI 43) (σ := σ) (D := D') w1
      rw [st_sum_C _ _ hX (by omega) h1 h2 hdi (by decide), w2]
      simp only [bnd]
      rw [u2]
      simp only [bnd]
      exact ⟨q2, D2, u1, st_sum_C0 _ _ _ _⟩
    · obtain ⟨fl, rfl⟩ : ∃ f', fl = f' + 2 := ⟨fl - 2, by omega⟩
      obtain ⟨v, a, w⟩ := a3 fu (gs τ 4176 (nI (i + 1))) (by omega) (mT_1 hm (by omega))
      rw [st_sum_T43 _ _ _ hm.1 hsg, w]
      simp only [bnd]
      rw [gs_gs, st_sum_bad _ _ _ (show ¬ (gs (gs τ 4176 a) 4177 (nI e)).1 4177 = -1 from ja_neg1 (k := e) (by omega))]
      exact ⟨_, _, rfl⟩
theorem l_step_sum45 {L k i : Nat} {d : Nat → Nat} (hd : ∀ j, j < L → d j < 256) (hs : sIn L 40 d i 45 45) (hsub : pOK L d 2 1 58 k (i + 1)) (ih : ∀ j, i < j → j ≤ 40 → j ≤ L → lOK_sum L d k j) : lOK_sum L d k i := by
  have h1 := hs.1
  have h2 := hs.2.1
  have hdi : d i = 45 := by have := hs.2.2.1; have := hs.2.2.2; omega
  have hsg : sgn L 40 d i = 45 := (sIn_eq (a := 45) hd (by omega)).2 hs
  rcases hsub with ⟨j1, C1, ev1, a1, a2, a3, a4, a5, a6, a7, a8⟩ | ⟨e, a1, a2, a3⟩
  · rcases ih j1 (by omega) a2 a3 with ⟨j2, C2, ev2, b1, b2, b3, b4, b5, b6, b7, b8⟩ | ⟨e, b1, b2, b3⟩
    · refine Or.inl ⟨j2, C1 ++ ((3000 + nI 45) :: C2), fun e acc => ev2 e (acc - ev1 e), by omega, b2, b3, ?_, fun fu fl σ q D x6 hf hfl hx hX hq => ?_, fun fu fl τ acc hf hfl hm => ?_, fun e fu fl τ acc hf hfl hm => ?_, fun e acc st => ?_⟩
      · rw [List.length_append, List.length_cons]; omega
      · obtain ⟨fl, rfl⟩ : ∃ f', fl = f' + 1 := ⟨fl - 1, by omega⟩
        rw [st_sum_C _ _ hX (by omega) h1 h2 hdi (by decide), a5 fu σ q D (by omega) hX (by omega)]
        simp only [bnd]
        rw [cq_write (by omega)]
        simp only [bnd]
        rw [b5 fu fl σ (q + C1.length + 1) _ (x6 + 1) hf (by omega) (by omega) hX (by omega), wr_app, List.length_append, List.length_cons, show q + C1.length + 1 + C2.length = q + (C1.length + (C2.length + 1)) by omega]
        rfl
      · obtain ⟨fl, rfl⟩ : ∃ f', fl = f' + 1 := ⟨fl - 1, by omega⟩
        obtain ⟨v, w⟩ := a6 fu (gs τ 4176 (nI (i + 1))) (by omega) (mT_1 hm (by omega))
        rw [st_sum_T45 _ _ _ hm.1 hsg, w]
        simp only [bnd]
        rw [gs_gs]
        obtain ⟨v2, w2⟩ := b6 fu fl (gs τ 4176 (nI j1)) _ (by omega) (by omega) (mT_1 hm (by omega))
        refine ⟨v2, w2.trans ?_⟩
        rw [gs_gs]
      · obtain ⟨fl, rfl⟩ : ∃ f', fl = f' + 1 := ⟨fl - 1, by omega⟩
        rw [st_sum_R45 _ _ _ hm.1 hsg, a7 e fu (gs τ 4176 (nI (i + 1))) (by omega) (nT_1 hm (by omega))]
        simp only [bnd]
        rw [gs_gs, b7 e fu fl (gs τ 4176 (nI j1)) _ (by omega) (by omega) (nT_1 hm (by omega)), gs_gs]
      · rw [rnL_app, a8]
        show rnL e C2 (rn1 e (3000 + nI 45) (ev1 e :: acc :: st)) = _
        rw [rn_join (by omega), b8]
        rfl
    · refine Or.inr ⟨e, b1, fun fu fl σ q D x6 hf hfl hx hX hq => ?_, fun fu fl τ acc hf hfl hm => ?_⟩
      · obtain ⟨fl, rfl⟩ : ∃ f', fl = f' + 1 := ⟨fl - 1, by omega⟩
        rw [st_sum_C _ _ hX (by omega) h1 h2 hdi (by decide), a5 fu σ q D (by omega) hX (by omega)]
        simp only [bnd]
        rw [cq_write (by omega)]
        simp only [bnd]
        exact b2 fu fl σ (q + C1.length + 1) _ (x6 + 1) hf (by omega) (by omega) hX (by omega)
      · obtain ⟨fl, rfl⟩ : ∃ f', fl = f' + 1 := ⟨fl - 1, by omega⟩
        obtain ⟨v, w⟩ := a6 fu (gs τ 4176 (nI (i + 1))) (by omega) (mT_1 hm (by omega))
        rw [st_sum_T45 _ _ _ hm.1 hsg, w]
        simp only [bnd]
        rw [gs_gs]
        obtain ⟨v2, a, w2⟩ := b3 fu fl (gs τ 4176 (nI j1)) _ (by omega) (by omega) (mT_1 hm (by omega))
        refine ⟨v2, a, w2.trans ?_⟩
        rw [gs_gs]
  · refine Or.inr ⟨e, a1, fun fu fl σ q D x6 hf hfl hx hX hq => ?_, fun fu fl τ acc hf hfl hm => ?_⟩
    · obtain ⟨fl, rfl⟩ : ∃ f', fl = f' + 2 := ⟨fl - 2, by omega⟩
      obtain ⟨q', D', w1, w2⟩ := a2 fu σ q D (by omega) hX (by omega)
      obtain ⟨q2, D2, u1, u2⟩ := cq_write40 (i := e) (x := 3000 + nI 45) (σ := σ) (D := D') w1
      rw [st_sum_C _ _ hX (by omega) h1 h2 hdi (by decide), w2]
      simp only [bnd]
      rw [u2]
      simp only [bnd]
      exact ⟨q2, D2, u1, st_sum_C0 _ _ _ _⟩
    · obtain ⟨fl, rfl⟩ : ∃ f', fl = f' + 2 := ⟨fl - 2, by omega⟩
      obtain ⟨v, a, w⟩ := a3 fu (gs τ 4176 (nI (i + 1))) (by omega) (mT_1 hm (by omega))
      rw [st_sum_T45 _ _ _ hm.1 hsg, w]
      simp only [bnd]
      rw [gs_gs, st_sum_bad _ _ _ (show ¬ (gs (gs τ 4176 a) 4177 (nI e)).1 4177 = -1 from ja_neg1 (k := e) (by omega))]
      exact ⟨_, _, rfl⟩
theorem l_ok_sum {L k : Nat} {d : Nat → Nat} (hd : ∀ j, j < L → d j < 256) (hsub : ∀ i, i ≤ 40 → i ≤ L → pOK L d 2 1 58 k i) : ∀ m i, 40 ≤ i + m → i ≤ 40 → i ≤ L → lOK_sum L d k i := by
  intro m
  induction m with
  | zero =>
    intro i hm hi hL
    have e : sgn L 40 d i = -1 := sgn_f (by omega)
    exact l_base_sum hi hL (by rw [e]; decide) (by rw [e]; decide)
  | succ m ih =>
    intro i hm hi hL
    by_cases z1 : sIn L 40 d i 43 43
    · have q1 := z1.1
      have q2 := z1.2.1
      exact l_step_sum43 hd z1 (hsub (i + 1) (by omega) (by omega)) (fun j u1 u2 u3 => ih j (by omega) u2 u3)
    by_cases z2 : sIn L 40 d i 45 45
    · have q1 := z2.1
      have q2 := z2.2.1
      exact l_step_sum45 hd z2 (hsub (i + 1) (by omega) (by omega)) (fun j u1 u2 u3 => ih j (by omega) u2 u3)
    exact l_base_sum hi hL (fun q => z1 ((sIn_eq (a := 43) hd (by omega)).1 q)) (fun q => z2 ((sIn_eq (a := 45) hd (by omega)).1 q))
theorem rec_sum (fu k : Nat) (s : jT) : f_rec0 (fu + 1) 0 [nI 1, nI k] s = (f_rec0 fu 0 [nI 2, nI k] s).bind fun q2 => f_X7_takeJoined_1_b38 (f_rec0 fu) 1000 (nI 1) (nI k) q2.1 40 (nI 0) q2.2 := by
  show f_X7_takeJoined_1 (f_rec0 fu) (nI 1) (nI k) s = _
  unfold f_X7_takeJoined_1
  rw [if_pos (by decide), show nI 1 + 1 = nI 2 from rfl]
  refine congrArg (fun f => Option.bind (f_rec0 fu 0 [nI 2, nI k] s) f) (funext fun q2 => ?_)
  rw [if_pos (show ¬ nI 1 = 0 by decide)]
  unfold f_X7_takeJoined_1_b33
  rw [show (0 : Int32) = nI 0 from rfl]
theorem p_ok_sum {L k i : Nat} {d : Nat → Nat} (hd : ∀ j, j < L → d j < 256) (hk : k ≤ 4) (hsub : ∀ i, i ≤ 40 → i ≤ L → pOK L d 2 1 58 k i) (hi : i ≤ 40) (hL : i ≤ L) : pOK L d 1 0 59 k i := by
  rcases hsub i hi hL with ⟨j1, C1, ev1, a1, a2, a3, a4, a5, a6, a7, a8⟩ | ⟨e, a1, a2, a3⟩
  · rcases l_ok_sum hd hsub 40 j1 (by omega) a2 a3 with ⟨j2, C2, ev2, b1, b2, b3, b4, b5, b6, b7, b8⟩ | ⟨e, b1, b2, b3⟩
    · refine Or.inl ⟨j2, C1 ++ C2, fun e => ev2 e (ev1 e), by omega, b2, b3, ?_, fun fu σ q D hf hX hq => ?_, fun fu τ hf hm => ?_, fun e fu τ hf hm => ?_, fun e st => ?_⟩
      · rw [List.length_append]; omega
      · obtain ⟨fu, rfl⟩ : ∃ f', fu = f' + 1 := ⟨fu - 1, by omega⟩
        rw [rec_sum, a5 fu σ q D (by omega) hX (by omega)]
        simp only [bnd]
        rw [b5 fu 1000 σ (q + C1.length) _ 0 (by omega) (by omega) (by omega) hX (by omega), wr_app, List.length_append, show q + C1.length + C2.length = q + (C1.length + C2.length) by omega]
      · obtain ⟨fu, rfl⟩ : ∃ f', fu = f' + 1 := ⟨fu - 1, by omega⟩
        obtain ⟨v, w⟩ := a6 fu τ (by omega) hm
        show ∃ v, f_X11_sum_T (f_rec2 fu) (nI k) τ = _
        unfold f_X11_sum_T
        rw [w]
        simp only [bnd]
        obtain ⟨v2, w2⟩ := b6 fu 1000 (gs τ 4176 (nI j1)) v (by omega) (by omega) (mT_1 hm (by omega))
        refine ⟨v2, w2.trans ?_⟩
        rw [gs_gs]
      · obtain ⟨fu, rfl⟩ : ∃ f', fu = f' + 1 := ⟨fu - 1, by omega⟩
        show f_X11_sum_R (f_rec3 fu) (nI k) τ = _
        unfold f_X11_sum_R
        rw [a7 e fu τ (by omega) hm]
        simp only [bnd]
        rw [b7 e fu 1000 (gs τ 4176 (nI j1)) _ (by omega) (by omega) (nT_1 hm (by omega)), gs_gs]
      · rw [rnL_app, a8, b8]
    · refine Or.inr ⟨e, b1, fun fu σ q D hf hX hq => ?_, fun fu τ hf hm => ?_⟩
      · obtain ⟨fu, rfl⟩ : ∃ f', fu = f' + 1 := ⟨fu - 1, by omega⟩
        rw [rec_sum, a5 fu σ q D (by omega) hX (by omega)]
        simp only [bnd]
        exact b2 fu 1000 σ (q + C1.length) _ 0 (by omega) (by omega) (by omega) hX (by omega)
      · obtain ⟨fu, rfl⟩ : ∃ f', fu = f' + 1 := ⟨fu - 1, by omega⟩
        obtain ⟨v, w⟩ := a6 fu τ (by omega) hm
        show ∃ v a, f_X11_sum_T (f_rec2 fu) (nI k) τ = _
        unfold f_X11_sum_T
        rw [w]
        simp only [bnd]
        obtain ⟨v2, a, w2⟩ := b3 fu 1000 (gs τ 4176 (nI j1)) v (by omega) (by omega) (mT_1 hm (by omega))
        refine ⟨v2, a, w2.trans ?_⟩
        rw [gs_gs]
  · refine Or.inr ⟨e, a1, fun fu σ q D hf hX hq => ?_, fun fu τ hf hm => ?_⟩
    · obtain ⟨fu, rfl⟩ : ∃ f', fu = f' + 1 := ⟨fu - 1, by omega⟩
      obtain ⟨q', D', w1, w2⟩ := a2 fu σ q D (by omega) hX (by omega)
      refine ⟨q', D', w1, ?_⟩
      rw [rec_sum, w2]
      simp only [bnd]
      exact st_sum_C0 _ _ _ _
    · obtain ⟨fu, rfl⟩ : ∃ f', fu = f' + 1 := ⟨fu - 1, by omega⟩
      obtain ⟨v, a, w⟩ := a3 fu τ (by omega) hm
      show ∃ v a, f_X11_sum_T (f_rec2 fu) (nI k) τ = _
      unfold f_X11_sum_T
      rw [w]
      simp only [bnd]
      exact ⟨v, a, st_sum_bad _ _ _ (show ¬ (gs (gs τ 4176 a) 4177 (nI e)).1 4177 = -1 from ja_neg1 (k := e) (by omega))⟩
