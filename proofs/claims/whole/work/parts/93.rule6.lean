/-! ===== THE RULE: comparisons, and the whole ===== -/
theorem jn60 (x y : Int32) : jn 60 x y = if y ≤ x then 0 else 1 := by
  unfold jn
  rw [if_neg (by decide), if_neg (by decide), if_neg (by decide), if_pos rfl]
theorem jn61 (x y : Int32) : jn 61 x y = if ¬ x = y then 0 else 1 := by
  unfold jn
  rw [if_neg (by decide), if_neg (by decide), if_neg (by decide), if_neg (by decide), if_pos rfl]
theorem jn62 (x y : Int32) : jn 62 x y = if x ≤ y then 0 else 1 := by
  unfold jn
  rw [if_neg (by decide), if_neg (by decide), if_neg (by decide), if_neg (by decide), if_neg (by decide), if_pos rfl]
theorem hd_T60 (rec : Nat → List Int32 → jT → Option (Int32 × jT)) {L j : Nat} {d : Nat → Nat} {τ t : jT} {x v : Int32} (w : rec 0 [x] τ = some (v, t)) (h : mX L 40 j d t) (hs : sIn L 40 d j 60 60) : f_X11_held_T rec x τ = (rec 0 [x] (gs t 4176 (nI (j + 1)))).bind fun q => some (jn 60 v q.1, q.2) := by
  have hv := hs.2.2.1
  have hv2 := hs.2.2.2
  unfold f_X11_held_T
  rw [w]
  simp only [bnd]
  have e60 : f_X11_passes_T 60 t = some (1, gs t 4176 (nI (j + 1))) := (m_passes (a := 60) h (by omega)).trans (if_pos hs)
  rw [e60]
  simp only [bnd]
  rw [if_neg (show ¬ (1 : Int32) = 0 by decide)]
  refine congrArg (fun f => Option.bind (rec 0 [x] (gs t 4176 (nI (j + 1)))) f) (funext fun q => ?_)
  rw [jn60]
  by_cases z : q.1 ≤ v
  · rw [if_pos z, if_pos z]
  · rw [if_neg z, if_neg z]
theorem hd_T62 (rec : Nat → List Int32 → jT → Option (Int32 × jT)) {L j : Nat} {d : Nat → Nat} {τ t : jT} {x v : Int32} (w : rec 0 [x] τ = some (v, t)) (h : mX L 40 j d t) (hs : sIn L 40 d j 62 62) : f_X11_held_T rec x τ = (rec 0 [x] (gs t 4176 (nI (j + 1)))).bind fun q => some (jn 62 v q.1, q.2) := by
  have hv := hs.2.2.1
  have hv2 := hs.2.2.2
  unfold f_X11_held_T
  rw [w]
  simp only [bnd]
  have e60 : f_X11_passes_T 60 t = some (0, t) := (m_passes (a := 60) h (by omega)).trans (if_neg (fun u => by have u1 := u.2.2.1; have u2 := u.2.2.2; omega))
  rw [e60]
  simp only [bnd]
  rw [iT]
  have e62 : f_X11_passes_T 62 t = some (1, gs t 4176 (nI (j + 1))) := (m_passes (a := 62) h (by omega)).trans (if_pos hs)
  rw [e62]
  simp only [bnd]
  rw [if_neg (show ¬ (1 : Int32) = 0 by decide)]
  refine congrArg (fun f => Option.bind (rec 0 [x] (gs t 4176 (nI (j + 1)))) f) (funext fun q => ?_)
  rw [jn62]
  by_cases z : v ≤ q.1
  · rw [if_pos z, if_pos z]
  · rw [if_neg z, if_neg z]
theorem hd_T61 (rec : Nat → List Int32 → jT → Option (Int32 × jT)) {L j : Nat} {d : Nat → Nat} {τ t : jT} {x v : Int32} (w : rec 0 [x] τ = some (v, t)) (h : mX L 40 j d t) (hs : sIn L 40 d j 61 61) : f_X11_held_T rec x τ = (rec 0 [x] (gs t 4176 (nI (j + 1)))).bind fun q => some (jn 61 v q.1, q.2) := by
  have hv := hs.2.2.1
  have hv2 := hs.2.2.2
  unfold f_X11_held_T
  rw [w]
  simp only [bnd]
  have e60 : f_X11_passes_T 60 t = some (0, t) := (m_passes (a := 60) h (by omega)).trans (if_neg (fun u => by have u1 := u.2.2.1; have u2 := u.2.2.2; omega))
  rw [e60]
  simp only [bnd]
  rw [iT]
  have e62 : f_X11_passes_T 62 t = some (0, t) := (m_passes (a := 62) h (by omega)).trans (if_neg (fun u => by have u1 := u.2.2.1; have u2 := u.2.2.2; omega))
  rw [e62]
  simp only [bnd]
  rw [iT]
  have e61 : f_X11_passes_T 61 t = some (1, gs t 4176 (nI (j + 1))) := (m_passes (a := 61) h (by omega)).trans (if_pos hs)
  rw [e61]
  simp only [bnd]
  rw [if_neg (show ¬ (1 : Int32) = 0 by decide)]
  refine congrArg (fun f => Option.bind (rec 0 [x] (gs t 4176 (nI (j + 1)))) f) (funext fun q => ?_)
  rw [jn61]
  by_cases z : ¬ v = q.1
  · rw [if_pos z, if_pos z]
  · rw [if_neg z, if_neg z]
theorem hd_Tno (rec : Nat → List Int32 → jT → Option (Int32 × jT)) {L j : Nat} {d : Nat → Nat} {τ t : jT} {x v : Int32} (w : rec 0 [x] τ = some (v, t)) (h : mX L 40 j d t) (h1 : ¬ sIn L 40 d j 60 60) (h2 : ¬ sIn L 40 d j 62 62) (h3 : ¬ sIn L 40 d j 61 61) : f_X11_held_T rec x τ = some (v, t) := by
  unfold f_X11_held_T
  rw [w]
  simp only [bnd]
  have e60 : f_X11_passes_T 60 t = some (0, t) := (m_passes (a := 60) h (by omega)).trans (if_neg h1)
  have e62 : f_X11_passes_T 62 t = some (0, t) := (m_passes (a := 62) h (by omega)).trans (if_neg h2)
  have e61 : f_X11_passes_T 61 t = some (0, t) := (m_passes (a := 61) h (by omega)).trans (if_neg h3)
  rw [e60]
  simp only [bnd]
  rw [iT, e62]
  simp only [bnd]
  rw [iT, e61]
  simp only [bnd]
  rw [iT]
theorem hd_R60 (rec : Nat → List Int32 → jT → Option (Int32 × jT)) {L j : Nat} {d : Nat → Nat} {τ t : jT} {x v : Int32} (w : rec 0 [x] τ = some (v, t)) (h : nX L j d t) (hs : sIn L 40 d j 60 60) : f_X11_held_R rec x τ = (rec 0 [x] (gs t 4176 (nI (j + 1)))).bind fun q => some (jn 60 v q.1, q.2) := by
  have hv := hs.2.2.1
  have hv2 := hs.2.2.2
  unfold f_X11_held_R
  rw [w]
  simp only [bnd]
  have e60 : f_X11_passes_R 60 t = some (1, gs t 4176 (nI (j + 1))) := (n_passes (a := 60) h (by omega)).trans (if_pos hs)
  rw [e60]
  simp only [bnd]
  rw [if_neg (show ¬ (1 : Int32) = 0 by decide)]
  refine congrArg (fun f => Option.bind (rec 0 [x] (gs t 4176 (nI (j + 1)))) f) (funext fun q => ?_)
  rw [jn60]
  by_cases z : q.1 ≤ v
  · rw [if_pos z, if_pos z]
  · rw [if_neg z, if_neg z]
theorem hd_R62 (rec : Nat → List Int32 → jT → Option (Int32 × jT)) {L j : Nat} {d : Nat → Nat} {τ t : jT} {x v : Int32} (w : rec 0 [x] τ = some (v, t)) (h : nX L j d t) (hs : sIn L 40 d j 62 62) : f_X11_held_R rec x τ = (rec 0 [x] (gs t 4176 (nI (j + 1)))).bind fun q => some (jn 62 v q.1, q.2) := by
  have hv := hs.2.2.1
  have hv2 := hs.2.2.2
  unfold f_X11_held_R
  rw [w]
  simp only [bnd]
  have e60 : f_X11_passes_R 60 t = some (0, t) := (n_passes (a := 60) h (by omega)).trans (if_neg (fun u => by have u1 := u.2.2.1; have u2 := u.2.2.2; omega))
  rw [e60]
  simp only [bnd]
  rw [iT]
  have e62 : f_X11_passes_R 62 t = some (1, gs t 4176 (nI (j + 1))) := (n_passes (a := 62) h (by omega)).trans (if_pos hs)
  rw [e62]
  simp only [bnd]
  rw [if_neg (show ¬ (1 : Int32) = 0 by decide)]
  refine congrArg (fun f => Option.bind (rec 0 [x] (gs t 4176 (nI (j + 1)))) f) (funext fun q => ?_)
  rw [jn62]
  by_cases z : v ≤ q.1
  · rw [if_pos z, if_pos z]
  · rw [if_neg z, if_neg z]
theorem hd_R61 (rec : Nat → List Int32 → jT → Option (Int32 × jT)) {L j : Nat} {d : Nat → Nat} {τ t : jT} {x v : Int32} (w : rec 0 [x] τ = some (v, t)) (h : nX L j d t) (hs : sIn L 40 d j 61 61) : f_X11_held_R rec x τ = (rec 0 [x] (gs t 4176 (nI (j + 1)))).bind fun q => some (jn 61 v q.1, q.2) := by
  have hv := hs.2.2.1
  have hv2 := hs.2.2.2
  unfold f_X11_held_R
  rw [w]
  simp only [bnd]
  have e60 : f_X11_passes_R 60 t = some (0, t) := (n_passes (a := 60) h (by omega)).trans (if_neg (fun u => by have u1 := u.2.2.1; have u2 := u.2.2.2; omega))
  rw [e60]
  simp only [bnd]
  rw [iT]
  have e62 : f_X11_passes_R 62 t = some (0, t) := (n_passes (a := 62) h (by omega)).trans (if_neg (fun u => by have u1 := u.2.2.1; have u2 := u.2.2.2; omega))
  rw [e62]
  simp only [bnd]
  rw [iT]
  have e61 : f_X11_passes_R 61 t = some (1, gs t 4176 (nI (j + 1))) := (n_passes (a := 61) h (by omega)).trans (if_pos hs)
  rw [e61]
  simp only [bnd]
  rw [if_neg (show ¬ (1 : Int32) = 0 by decide)]
  refine congrArg (fun f => Option.bind (rec 0 [x] (gs t 4176 (nI (j + 1)))) f) (funext fun q => ?_)
  rw [jn61]
  by_cases z : ¬ v = q.1
  · rw [if_pos z, if_pos z]
  · rw [if_neg z, if_neg z]
theorem hd_Rno (rec : Nat → List Int32 → jT → Option (Int32 × jT)) {L j : Nat} {d : Nat → Nat} {τ t : jT} {x v : Int32} (w : rec 0 [x] τ = some (v, t)) (h : nX L j d t) (h1 : ¬ sIn L 40 d j 60 60) (h2 : ¬ sIn L 40 d j 62 62) (h3 : ¬ sIn L 40 d j 61 61) : f_X11_held_R rec x τ = some (v, t) := by
  unfold f_X11_held_R
  rw [w]
  simp only [bnd]
  have e60 : f_X11_passes_R 60 t = some (0, t) := (n_passes (a := 60) h (by omega)).trans (if_neg h1)
  have e62 : f_X11_passes_R 62 t = some (0, t) := (n_passes (a := 62) h (by omega)).trans (if_neg h2)
  have e61 : f_X11_passes_R 61 t = some (0, t) := (n_passes (a := 61) h (by omega)).trans (if_neg h3)
  rw [e60]
  simp only [bnd]
  rw [iT, e62]
  simp only [bnd]
  rw [iT, e61]
  simp only [bnd]
  rw [iT]
theorem hd_bad (rec : Nat → List Int32 → jT → Option (Int32 × jT)) {τ t : jT} {x v : Int32} (w : rec 0 [x] τ = some (v, t)) (h : ¬ t.1 4177 = -1) : f_X11_held_T rec x τ = some (v, t) := by
  unfold f_X11_held_T
  rw [w]
  simp only [bnd]
  rw [m_passes0 h]
  simp only [bnd]
  rw [iT, m_passes0 h]
  simp only [bnd]
  rw [iT, m_passes0 h]
  simp only [bnd]
  rw [iT]
theorem rec_held (fu k : Nat) (s : jT) : f_rec0 (fu + 1) 0 [nI 0, nI k] s = (f_rec0 fu 0 [nI 1, nI k] s).bind fun q2 => f_X7_takeJoined_1_b38 (f_rec0 fu) 1000 (nI 0) (nI k) q2.1 1 (nI 0) q2.2 := by
  show f_X7_takeJoined_1 (f_rec0 fu) (nI 0) (nI k) s = _
  unfold f_X7_takeJoined_1
  rw [if_pos (by decide), show nI 0 + 1 = nI 1 from rfl]
  refine congrArg (fun f => Option.bind (f_rec0 fu 0 [nI 1, nI k] s) f) (funext fun q2 => ?_)
  rw [if_neg (show ¬ ¬ nI 0 = 0 by decide)]
  unfold f_X7_takeJoined_1_b33
  rw [show (0 : Int32) = nI 0 from rfl]
theorem hd_C (rec : Nat → List Int32 → jT → Option (Int32 × jT)) {L i q fl c : Nat} {d : Nat → Nat} {σ : jT} {D : Nat → Int32} (x : Int32) (h : bX L 40 d σ) (h1 : i < 40) (h2 : i < L) (hc : d i = c) (hr : rkO (nI c) = nI 0) : f_X7_takeJoined_1_b38 rec (fl + 1) (nI 0) x 1 1 (nI 0) (cQ σ i q D) = (rec 0 [nI 1, x] (cQ σ (i + 1) q D)).bind fun q10 => (f_X7_write (3000 + nI c) q10.2).bind fun q11 => f_X7_takeJoined_1_b38 rec fl (nI 0) x q10.1 1 (nI 1) q11.2 := by
  rw [f_X7_takeJoined_1_b38, if_neg (show ¬ (1 : Int32) ≤ nI 0 by decide), if_neg (show ¬ (1 : Int32) = 0 by decide), cq_peek h (by omega), sgn_t h1 h2, hc]
  simp only [bnd]
  rw [c_rank]
  simp only [bnd]
  rw [hr, if_neg (fun w => w rfl), cq_next h h1 h2, hc]
  simp only [bnd]
  rw [nS]
theorem hd_Ce (rec : Nat → List Int32 → jT → Option (Int32 × jT)) {fl : Nat} {s : jT} (x y : Int32) (hy : y = 0 ∨ y = 1) : f_X7_takeJoined_1_b38 rec (fl + 1) (nI 0) x y 1 (nI 1) s = some (y, s) := by
  rw [f_X7_takeJoined_1_b38, if_pos (show (1 : Int32) ≤ nI 1 by decide), if_pos hy]
theorem hd_C0 (rec : Nat → List Int32 → jT → Option (Int32 × jT)) {fl : Nat} {s : jT} (x : Int32) : f_X7_takeJoined_1_b38 rec (fl + 1) (nI 0) x 0 1 (nI 0) s = some (0, s) := by
  rw [f_X7_takeJoined_1_b38, if_neg (show ¬ (1 : Int32) ≤ nI 0 by decide), if_pos rfl, if_pos (by decide)]
theorem hd_Cno (rec : Nat → List Int32 → jT → Option (Int32 × jT)) {L i q fl : Nat} {d : Nat → Nat} {σ : jT} {D : Nat → Int32} (x : Int32) (h : bX L 40 d σ) (hi : i ≤ 40) (hr : ¬ rkO (sgn L 40 d i) = nI 0) : f_X7_takeJoined_1_b38 rec (fl + 1) (nI 0) x 1 1 (nI 0) (cQ σ i q D) = some (1, cQ σ i q D) := by
  rw [f_X7_takeJoined_1_b38, if_neg (show ¬ (1 : Int32) ≤ nI 0 by decide), if_neg (show ¬ (1 : Int32) = 0 by decide), cq_peek h (by omega)]
  simp only [bnd]
  rw [c_rank]
  simp only [bnd]
  rw [if_pos hr, if_pos (by decide)]
theorem h_step60 {L k i j1 : Nat} {d : Nat → Nat} {C1 : List Int32} {ev1 : (Nat → Int32) → Int32} (hk : k ≤ 4) (hs : sIn L 40 d j1 60 60) (a1 : i < j1) (a4 : C1.length + i ≤ j1) (a5 : cYs L d 1 k i j1 C1) (a6 : tYs L d 0 59 k i j1) (a7 : rYs L d 0 59 k i j1 ev1) (a8 : ∀ e st, rnL e C1 st = ev1 e :: st) (hsub : pOK L d 1 0 59 k (j1 + 1)) : pOK L d 0 3 60 k i := by
  have h1 := hs.1
  have h2 := hs.2.1
  have hdi : d j1 = 60 := by have := hs.2.2.1; have := hs.2.2.2; omega
  rcases hsub with ⟨j2, C2, ev2, b1, b2, b3, b4, b5, b6, b7, b8⟩ | ⟨e, b1, b2, b3⟩
  · refine Or.inl ⟨j2, C1 ++ (C2 ++ [3000 + nI 60]), fun e => jn 60 (ev1 e) (ev2 e), by omega, b2, b3, ?_, fun fu σ q D hf hX hq => ?_, fun fu τ hf hm => ?_, fun e fu τ hf hm => ?_, fun e st => ?_⟩
    · rw [List.length_append, len_app1]; omega
    · obtain ⟨fu, rfl⟩ : ∃ f', fu = f' + 1 := ⟨fu - 1, by omega⟩
      rw [rec_held, a5 fu σ q D (by omega) hX (by omega)]
      simp only [bnd]
      rw [show (1000 : Nat) = 998 + 1 + 1 from rfl, hd_C _ _ hX h1 h2 hdi (by decide), b5 fu σ (q + C1.length) _ (by omega) hX (by omega)]
      simp only [bnd]
      rw [cq_write (by omega)]
      simp only [bnd]
      rw [hd_Ce _ _ _ (Or.inr rfl), wr_app, wr_app, List.length_append, len_app1, show q + C1.length + C2.length + 1 = q + (C1.length + (C2.length + 1)) by omega]
    · obtain ⟨fu, rfl⟩ : ∃ f', fu = f' + 1 := ⟨fu - 1, by omega⟩
      obtain ⟨v, w⟩ := a6 fu τ (by omega) hm
      obtain ⟨v2, w2⟩ := b6 fu (gs τ 4176 (nI (j1 + 1))) (by omega) (mT_1 hm (by omega))
      show ∃ v, f_X11_held_T (f_rec2 fu) (nI k) τ = _
      rw [hd_T60 _ w (mX_1 hm.1 (show j1 ≤ 80 by omega)) hs, gs_gs, w2]
      simp only [bnd]
      rw [gs_gs]
      exact ⟨_, rfl⟩
    · obtain ⟨fu, rfl⟩ : ∃ f', fu = f' + 1 := ⟨fu - 1, by omega⟩
      show f_X11_held_R (f_rec3 fu) (nI k) τ = _
      rw [hd_R60 _ (a7 e fu τ (by omega) hm) (nX_1 hm.1 (show j1 ≤ 40 by omega)) hs, gs_gs, b7 e fu (gs τ 4176 (nI (j1 + 1))) (by omega) (nT_1 hm (by omega))]
      simp only [bnd]
      rw [gs_gs]
    · rw [rnL_app, a8, rnL_app, b8]
      exact rn_join (e := e) (c := 60) (by decide) _ _ _
  · refine Or.inr ⟨e, b1, fun fu σ q D hf hX hq => ?_, fun fu τ hf hm => ?_⟩
    · obtain ⟨fu, rfl⟩ : ∃ f', fu = f' + 1 := ⟨fu - 1, by omega⟩
      obtain ⟨q', D', w1, w2⟩ := b2 fu σ (q + C1.length) (wr D q C1) (by omega) hX (by omega)
      obtain ⟨q2, D2, u1, u2⟩ := cq_write40 (i := e) (x := 3000 + nI 60) (σ := σ) (D := D') w1
      refine ⟨q2, D2, u1, ?_⟩
      rw [rec_held, a5 fu σ q D (by omega) hX (by omega)]
      simp only [bnd]
      rw [show (1000 : Nat) = 998 + 1 + 1 from rfl, hd_C _ _ hX h1 h2 hdi (by decide), w2]
      simp only [bnd]
      rw [u2]
      simp only [bnd]
      rw [hd_Ce _ _ _ (Or.inl rfl)]
    · obtain ⟨fu, rfl⟩ : ∃ f', fu = f' + 1 := ⟨fu - 1, by omega⟩
      obtain ⟨v, w⟩ := a6 fu τ (by omega) hm
      obtain ⟨v2, a, w2⟩ := b3 fu (gs τ 4176 (nI (j1 + 1))) (by omega) (mT_1 hm (by omega))
      show ∃ v a, f_X11_held_T (f_rec2 fu) (nI k) τ = _
      rw [hd_T60 _ w (mX_1 hm.1 (show j1 ≤ 80 by omega)) hs, gs_gs, w2]
      simp only [bnd]
      rw [gs_gs]
      exact ⟨_, _, rfl⟩
theorem h_step62 {L k i j1 : Nat} {d : Nat → Nat} {C1 : List Int32} {ev1 : (Nat → Int32) → Int32} (hk : k ≤ 4) (hs : sIn L 40 d j1 62 62) (a1 : i < j1) (a4 : C1.length + i ≤ j1) (a5 : cYs L d 1 k i j1 C1) (a6 : tYs L d 0 59 k i j1) (a7 : rYs L d 0 59 k i j1 ev1) (a8 : ∀ e st, rnL e C1 st = ev1 e :: st) (hsub : pOK L d 1 0 59 k (j1 + 1)) : pOK L d 0 3 60 k i := by
  have h1 := hs.1
  have h2 := hs.2.1
  have hdi : d j1 = 62 := by have := hs.2.2.1; have := hs.2.2.2; omega
  rcases hsub with ⟨j2, C2, ev2, b1, b2, b3, b4, b5, b6, b7, b8⟩ | ⟨e, b1, b2, b3⟩
  · refine Or.inl ⟨j2, C1 ++ (C2 ++ [3000 + nI 62]), fun e => jn 62 (ev1 e) (ev2 e), by omega, b2, b3, ?_, fun fu σ q D hf hX hq => ?_, fun fu τ hf hm => ?_, fun e fu τ hf hm => ?_, fun e st => ?_⟩
    · rw [List.length_append, len_app1]; omega
    · obtain ⟨fu, rfl⟩ : ∃ f', fu = f' + 1 := ⟨fu - 1, by omega⟩
      rw [rec_held, a5 fu σ q D (by omega) hX (by omega)]
      simp only [bnd]
      rw [show (1000 : Nat) = 998 + 1 + 1 from rfl, hd_C _ _ hX h1 h2 hdi (by decide), b5 fu σ (q + C1.length) _ (by omega) hX (by omega)]
      simp only [bnd]
      rw [cq_write (by omega)]
      simp only [bnd]
      rw [hd_Ce _ _ _ (Or.inr rfl), wr_app, wr_app, List.length_append, len_app1, show q + C1.length + C2.length + 1 = q + (C1.length + (C2.length + 1)) by omega]
    · obtain ⟨fu, rfl⟩ : ∃ f', fu = f' + 1 := ⟨fu - 1, by omega⟩
      obtain ⟨v, w⟩ := a6 fu τ (by omega) hm
      obtain ⟨v2, w2⟩ := b6 fu (gs τ 4176 (nI (j1 + 1))) (by omega) (mT_1 hm (by omega))
      show ∃ v, f_X11_held_T (f_rec2 fu) (nI k) τ = _
      rw [hd_T62 _ w (mX_1 hm.1 (show j1 ≤ 80 by omega)) hs, gs_gs, w2]
      simp only [bnd]
      rw [gs_gs]
      exact ⟨_, rfl⟩
    · obtain ⟨fu, rfl⟩ : ∃ f', fu = f' + 1 := ⟨fu - 1, by omega⟩
      show f_X11_held_R (f_rec3 fu) (nI k) τ = _
      rw [hd_R62 _ (a7 e fu τ (by omega) hm) (nX_1 hm.1 (show j1 ≤ 40 by omega)) hs, gs_gs, b7 e fu (gs τ 4176 (nI (j1 + 1))) (by omega) (nT_1 hm (by omega))]
      simp only [bnd]
      rw [gs_gs]
    · rw [rnL_app, a8, rnL_app, b8]
      exact rn_join (e := e) (c := 62) (by decide) _ _ _
  · refine Or.inr ⟨e, b1, fun fu σ q D hf hX hq => ?_, fun fu τ hf hm => ?_⟩
    · obtain ⟨fu, rfl⟩ : ∃ f', fu = f' + 1 := ⟨fu - 1, by omega⟩
      obtain ⟨q', D', w1, w2⟩ := b2 fu σ (q + C1.length) (wr D q C1) (by omega) hX (by omega)
      obtain ⟨q2, D2, u1, u2⟩ := cq_write40 (i := e) (x := 3000 + nI 62) (σ := σ) (D := D') w1
      refine ⟨q2, D2, u1, ?_⟩
      rw [rec_held, a5 fu σ q D (by omega) hX (by omega)]
      simp only [bnd]
      rw [show (1000 : Nat) = 998 + 1 + 1 from rfl, hd_C _ _ hX h1 h2 hdi (by decide), w2]
      simp only [bnd]
      rw [u2]
      simp only [bnd]
      rw [hd_Ce _ _ _ (Or.inl rfl)]
    · obtain ⟨fu, rfl⟩ : ∃ f', fu = f' + 1 := ⟨fu - 1, by omega⟩
      obtain ⟨v, w⟩ := a6 fu τ (by omega) hm
      obtain ⟨v2, a, w2⟩ := b3 fu (gs τ 4176 (nI (j1 + 1))) (by omega) (mT_1 hm (by omega))
      show ∃ v a, f_X11_held_T (f_rec2 fu) (nI k) τ = _
      rw [hd_T62 _ w (mX_1 hm.1 (show j1 ≤ 80 by omega)) hs, gs_gs, w2]
      simp only [bnd]
      rw [gs_gs]
      exact ⟨_, _, rfl⟩
theorem h_step61 {L k i j1 : Nat} {d : Nat → Nat} {C1 : List Int32} {ev1 : (Nat → Int32) → Int32} (hk : k ≤ 4) (hs : sIn L 40 d j1 61 61) (a1 : i < j1) (a4 : C1.length + i ≤ j1) (a5 : cYs L d 1 k i j1 C1) (a6 : tYs L d 0 59 k i j1) (a7 : rYs L d 0 59 k i j1 ev1) (a8 : ∀ e st, rnL e C1 st = ev1 e :: st) (hsub : pOK L d 1 0 59 k (j1 + 1)) : pOK L d 0 3 60 k i := by
  have h1 := hs.1
  have h2 := hs.2.1
  have hdi : d j1 = 61 := by have := hs.2.2.1; have := hs.2.2.2; omega
  rcases hsub with ⟨j2, C2, ev2, b1, b2, b3, b4, b5, b6, b7, b8⟩ | ⟨e, b1, b2, b3⟩
  · refine Or.inl ⟨j2, C1 ++ (C2 ++ [3000 + nI 61]), fun e => jn 61 (ev1 e) (ev2 e), by omega, b2, b3, ?_, fun fu σ q D hf hX hq => ?_, fun fu τ hf hm => ?_, fun e fu τ hf hm => ?_, fun e st => ?_⟩
    · rw [List.length_append, len_app1]; omega
    · obtain ⟨fu, rfl⟩ : ∃ f', fu = f' + 1 := ⟨fu - 1, by omega⟩
      rw [rec_held, a5 fu σ q D (by omega) hX (by omega)]
      simp only [bnd]
      rw [show (1000 : Nat) = 998 + 1 + 1 from rfl, hd_C _ _ hX h1 h2 hdi (by decide), b5 fu σ (q + C1.length) _ (by omega) hX (by omega)]
      simp only [bnd]
      rw [cq_write (by omega)]
      simp only [bnd]
      rw [hd_Ce _ _ _ (Or.inr rfl), wr_app, wr_app, List.length_append, len_app1, show q + C1.length + C2.length + 1 = q + (C1.length + (C2.length + 1)) by omega]
    · obtain ⟨fu, rfl⟩ : ∃ f', fu = f' + 1 := ⟨fu - 1, by omega⟩
      obtain ⟨v, w⟩ := a6 fu τ (by omega) hm
      obtain ⟨v2, w2⟩ := b6 fu (gs τ 4176 (nI (j1 + 1))) (by omega) (mT_1 hm (by omega))
      show ∃ v, f_X11_held_T (f_rec2 fu) (nI k) τ = _
      rw [hd_T61 _ w (mX_1 hm.1 (show j1 ≤ 80 by omega)) hs, gs_gs, w2]
      simp only [bnd]
      rw [gs_gs]
      exact ⟨_, rfl⟩
    · obtain ⟨fu, rfl⟩ : ∃ f', fu = f' + 1 := ⟨fu - 1, by omega⟩
      show f_X11_held_R (f_rec3 fu) (nI k) τ = _
      rw [hd_R61 _ (a7 e fu τ (by omega) hm) (nX_1 hm.1 (show j1 ≤ 40 by omega)) hs, gs_gs, b7 e fu (gs τ 4176 (nI (j1 + 1))) (by omega) (nT_1 hm (by omega))]
      simp only [bnd]
      rw [gs_gs]
    · rw [rnL_app, a8, rnL_app, b8]
      exact rn_join (e := e) (c := 61) (by decide) _ _ _
  · refine Or.inr ⟨e, b1, fun fu σ q D hf hX hq => ?_, fun fu τ hf hm => ?_⟩
    · obtain ⟨fu, rfl⟩ : ∃ f', fu = f' + 1 := ⟨fu - 1, by omega⟩
      obtain ⟨q', D', w1, w2⟩ := b2 fu σ (q + C1.length) (wr D q C1) (by omega) hX (by omega)
      obtain ⟨q2, D2, u1, u2⟩ := cq_write40 (i := e) (x := 3000 + nI 61) (σ := σ) (D := D') w1
      refine ⟨q2, D2, u1, ?_⟩
      rw [rec_held, a5 fu σ q D (by omega) hX (by omega)]
      simp only [bnd]
      rw [show (1000 : Nat) = 998 + 1 + 1 from rfl, hd_C _ _ hX h1 h2 hdi (by decide), w2]
      simp only [bnd]
      rw [u2]
      simp only [bnd]
      rw [hd_Ce _ _ _ (Or.inl rfl)]
    · obtain ⟨fu, rfl⟩ : ∃ f', fu = f' + 1 := ⟨fu - 1, by omega⟩
      obtain ⟨v, w⟩ := a6 fu τ (by omega) hm
      obtain ⟨v2, a, w2⟩ := b3 fu (gs τ 4176 (nI (j1 + 1))) (by omega) (mT_1 hm (by omega))
      show ∃ v a, f_X11_held_T (f_rec2 fu) (nI k) τ = _
      rw [hd_T61 _ w (mX_1 hm.1 (show j1 ≤ 80 by omega)) hs, gs_gs, w2]
      simp only [bnd]
      rw [gs_gs]
      exact ⟨_, _, rfl⟩
theorem h_ok {L k i : Nat} {d : Nat → Nat} (hd : ∀ j, j < L → d j < 256) (hk : k ≤ 4) (hsub : ∀ i, i ≤ 40 → i ≤ L → pOK L d 1 0 59 k i) (hi : i ≤ 40) (hL : i ≤ L) : pOK L d 0 3 60 k i := by
  rcases hsub i hi hL with ⟨j1, C1, ev1, a1, a2, a3, a4, a5, a6, a7, a8⟩ | ⟨e, a1, a2, a3⟩
  · by_cases z1 : sIn L 40 d j1 60 60
    · have q1 := z1.1
      have q2 := z1.2.1
      exact h_step60 hk z1 a1 a4 a5 a6 a7 a8 (hsub (j1 + 1) (by omega) (by omega))
    by_cases z2 : sIn L 40 d j1 62 62
    · have q1 := z2.1
      have q2 := z2.2.1
      exact h_step62 hk z2 a1 a4 a5 a6 a7 a8 (hsub (j1 + 1) (by omega) (by omega))
    by_cases z3 : sIn L 40 d j1 61 61
    · have q1 := z3.1
      have q2 := z3.2.1
      exact h_step61 hk z3 a1 a4 a5 a6 a7 a8 (hsub (j1 + 1) (by omega) (by omega))
    have hr : ¬ rkO (sgn L 40 d j1) = nI 0 := fun q => by
      rcases rk_of.2.2 q with w | w | w
      · exact z1 ((sIn_eq (a := 60) hd (by omega)).1 w)
      · exact z2 ((sIn_eq (a := 62) hd (by omega)).1 w)
      · exact z3 ((sIn_eq (a := 61) hd (by omega)).1 w)
    refine Or.inl ⟨j1, C1, ev1, a1, a2, a3, a4, fun fu σ q D hf hX hq => ?_, fun fu τ hf hm => ?_, fun e fu τ hf hm => ?_, a8⟩
    · obtain ⟨fu, rfl⟩ : ∃ f', fu = f' + 1 := ⟨fu - 1, by omega⟩
      rw [rec_held, a5 fu σ q D (by omega) hX (by omega)]
      simp only [bnd]
      rw [show (1000 : Nat) = 999 + 1 from rfl, hd_Cno _ _ hX a2 hr]
    · obtain ⟨fu, rfl⟩ : ∃ f', fu = f' + 1 := ⟨fu - 1, by omega⟩
      obtain ⟨v, w⟩ := a6 fu τ (by omega) hm
      exact ⟨v, hd_Tno _ w (mX_1 hm.1 (show j1 ≤ 80 by omega)) z1 z2 z3⟩
    · obtain ⟨fu, rfl⟩ : ∃ f', fu = f' + 1 := ⟨fu - 1, by omega⟩
      exact hd_Rno _ (a7 e fu τ (by omega) hm) (nX_1 hm.1 (show j1 ≤ 40 by omega)) z1 z2 z3
  · refine Or.inr ⟨e, a1, fun fu σ q D hf hX hq => ?_, fun fu τ hf hm => ?_⟩
    · obtain ⟨fu, rfl⟩ : ∃ f', fu = f' + 1 := ⟨fu - 1, by omega⟩
      obtain ⟨q', D', w1, w2⟩ := a2 fu σ q D (by omega) hX (by omega)
      refine ⟨q', D', w1, ?_⟩
      rw [rec_held, w2]
      simp only [bnd]
      rw [show (1000 : Nat) = 999 + 1 from rfl, hd_C0]
    · obtain ⟨fu, rfl⟩ : ∃ f', fu = f' + 1 := ⟨fu - 1, by omega⟩
      obtain ⟨v, a, w⟩ := a3 fu τ (by omega) hm
      exact ⟨v, a, hd_bad _ w (show ¬ (gs (gs τ 4176 a) 4177 (nI e)).1 4177 = -1 from ja_neg1 (k := e) (by omega))⟩
theorem all_ok {L : Nat} {d : Nat → Nat} (hd : ∀ j, j < L → d j < 256) : ∀ n k, k + n = 4 → ∀ i, i ≤ 40 → i ≤ L → pOK L d 0 3 60 k i := by
  intro n
  induction n with
  | zero =>
    intro k hk i hi hL
    exact h_ok hd (by omega) (fun i hi hL => p_ok_sum hd (by omega) (fun i hi hL => p_ok_product hd (by omega) (fun i hi hL => t_ok hd (by omega) (fun q => absurd q (by omega)) hi hL) hi hL) hi hL) hi hL
  | succ n ih =>
    intro k hk i hi hL
    exact h_ok hd (by omega) (fun i hi hL => p_ok_sum hd (by omega) (fun i hi hL => p_ok_product hd (by omega) (fun i hi hL => t_ok hd (by omega) (fun _ => ih (k + 1) (by omega)) hi hL) hi hL) hi hL) hi hL
