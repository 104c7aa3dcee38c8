/-! ===== an act of a journey ===== -/
/-- what an act leaves, on both sides -/
def jaR (P Q : Nat) (k v : Int32) (σ τ σ' τ' : jT) : Prop := coreCn σ' = coreCn σ ∧ (∀ i, i < 3144 ∨ 3148 < i → σ'.1 i = σ.1 i) ∧ coreMn τ' = coreMn τ ∧ τ'.2 80 = τ.2 80 ∧ τ'.2 81 = τ.2 81 ∧ τ'.1 4172 = τ.1 4172 ∧ (τ'.1 4193 = if k = 114 then τ.1 4193 + v else τ.1 4193) ∧ rN P Q σ' τ'
def jaB (P Q : Nat) (k : Int32) (fc fm : Option (Int32 × jT)) (σ τ : jT) : Prop := (∃ c, c < 0 ∧ fc = some (c, σ) ∧ fm = some (0, τ)) ∨ ∃ v σ' τ', (¬ v < 0) ∧ fc = some (v, σ') ∧ fm = some (1, τ') ∧ jaR P Q k v σ τ σ' τ'
theorem ja_of_act {P Q : Nat} {k : Int32} {fc fr fg : jT → Option (Int32 × jT)} {fm : Option (Int32 × jT)} {σ τ : jT} (hk : ¬ k = 114) (h : rAct P Q fc fr fg σ τ) (h1 : ∀ c, c < 0 → fr τ = some (c, τ) → fm = some (0, τ)) (h2 : ∀ a τ2, fr τ = some (0, τ) → fg τ = some (a, τ2) → fm = some (1, τ2)) : jaB P Q k (fc σ) fm σ τ := by
  rcases h with ⟨c, hc, a1, a2⟩ | ⟨a, σ', ha, a1, a2, a3, a4⟩
  · exact Or.inl ⟨c, hc, a1, h1 c hc a2⟩
  · obtain ⟨τ2, g1, g2, g3, g4⟩ := a4 τ (fun _ _ => rfl) (fun _ _ => rfl)
    obtain ⟨b1, b2⟩ := Prod.mk.inj a3
    obtain ⟨c1, c2⟩ := Prod.mk.inj g3
    obtain ⟨c3, c4⟩ := Prod.mk.inj c2
    refine Or.inr ⟨a, σ', τ2, ha, a1, h2 a τ2 a2 g1, b1, fun i _ => congrFun b2 i, g2, c3, c4, congrFun c1 4172, ?_, g4⟩
    rw [if_neg hk]; exact congrFun c1 4193
theorem neg_le {c : Int32} (h : c < 0) : ¬ (0 : Int32) ≤ c := Int32.not_le.2 h
theorem vw66_s {x y : Int32} {τ : jT} {q : Int32 × jT} (h : f_X11_viewOf_66 x y τ = some q) : q.2 = τ := by
  have key : ∀ s, f_X11_viewOf_66_b20 y s τ = some q → q.2 = τ := by
    intro s h
    unfold f_X11_viewOf_66_b20 at h
    split at h
    · split at h
      · split at h
        · split at h
          · exact absurd h (by simp)
          · rw [← Option.some.inj h]
        · exact absurd h (by simp)
      · exact absurd h (by simp)
    · exact absurd h (by simp)
  unfold f_X11_viewOf_66 at h
  split at h
  · split at h
    · exact key _ h
    · exact key _ h
  · exact absurd h (by simp)
theorem mount_s {x y a : Int32} {τ τ2 : jT} (h : mMountG x y τ = some (a, τ2)) : τ2 = gA (gA (gA τ 66 1 x) 66 2 y) 66 3 0 := by
  unfold mMountG f_X11_goMount at h
  simp only [bnd] at h
  split at h
  · split at h
    · exact (congrArg Prod.snd (Option.some.inj h)).symm
    · cases e1 : f_X11_viewOf_66 x ((gA (gA (gA τ 66 1 x) 66 2 y) 66 3 0).2 66 0) (gA (gA (gA τ 66 1 x) 66 2 y) 66 3 0) with
      | none => rw [e1] at h; exact absurd h (by simp)
      | some q =>
        rw [e1] at h
        simp only [bnd] at h
        have s1 := vw66_s e1
        rw [s1] at h
        cases e2 : f_X11_viewOf_66 y ((gA (gA (gA τ 66 1 x) 66 2 y) 66 3 0).2 66 0) (gA (gA (gA τ 66 1 x) 66 2 y) 66 3 0) with
        | none => rw [e2] at h; exact absurd h (by simp)
        | some q2 =>
          rw [e2] at h
          simp only [bnd] at h
          have s2 := vw66_s e2
          rw [s2] at h
          split at h
          · exact (congrArg Prod.snd (Option.some.inj h)).symm
          · exact (congrArg Prod.snd (Option.some.inj h)).symm
  · exact absurd h (by simp)
theorem ja_m {n P Q : Nat} {σ τ : jT} (h : rAll n P Q σ τ) (x y : Int32) : jaB P Q 109 (f_X10_act 109 x y σ) (f_X11_act 109 x y τ) σ τ := by
  have e : f_X10_act 109 x y σ = f_X10_getOn x y σ := by
    unfold f_X10_act
    rw [if_neg (by decide), if_neg (by decide), if_pos rfl]
    exact bind_eta _
  have em : f_X11_act 109 x y τ = ((f_X11_refusesMount x y τ).bind fun q10 => if 0 ≤ q10.1 then (f_X11_goMount x y q10.2).bind fun q12 => some (1, q12.2) else some (0, q10.2)) := by
    unfold f_X11_act
    rw [if_neg (by decide), if_neg (by decide), if_pos rfl]
  rw [e, em]
  refine ja_of_act (by decide) (act_mount h x y) (fun c hc e1 => ?_) (fun a τ2 e1 e2 => ?_)
  · rw [e1]
    simp only [bnd]
    rw [if_neg (neg_le hc)]
  · rw [e1]
    simp only [bnd]
    rw [if_pos (by decide)]
    unfold f_X11_goMount
    simp only [bnd]
    rw [mount_s e2]
theorem ja_d {n P Q : Nat} {σ τ : jT} (h : rAll n P Q σ τ) (x y x' y' : Int32) : jaB P Q 100 (f_X10_act 100 x y σ) (f_X11_act 100 x' y' τ) σ τ := by
  have e : f_X10_act 100 x y σ = f_X10_getOff σ := by
    unfold f_X10_act
    rw [if_pos rfl]
    exact bind_eta _
  have em : f_X11_act 100 x' y' τ = ((f_X11_isRidden τ).bind fun q2 => if ¬ q2.1 = 0 then (f_X11_goDown q2.2).bind fun q4 => some (1, q4.2) else some (0, q2.2)) := by
    unfold f_X11_act
    rw [if_pos rfl]
  rw [e, em]
  have hr : f_X11_isRidden τ = some (0, τ) ∨ f_X11_isRidden τ = some (1, τ) := by
    unfold f_X11_isRidden
    split
    · exact Or.inl rfl
    · exact Or.inr rfl
  refine ja_of_act (by decide) (act_down h) (fun c hc e1 => ?_) (fun a τ2 e1 e2 => ?_)
  · rcases hr with w | w
    · rw [w]
      simp only [bnd]
      rw [iNT]
    · unfold mDownR at e1
      rw [w] at e1
      simp only [bnd] at e1
      rw [if_pos (show ¬ (1 : Int32) = 0 by decide)] at e1
      have : (0 : Int32) = c := congrArg Prod.fst (Option.some.inj e1)
      rw [← this] at hc
      exact absurd hc (by decide)
  · rcases hr with w | w
    · unfold mDownR at e1
      rw [w] at e1
      simp only [bnd] at e1
      rw [iNT] at e1
      have : (-2 : Int32) = 0 := congrArg Prod.fst (Option.some.inj e1)
      exact absurd this (by decide)
    · rw [w]
      simp only [bnd]
      rw [if_pos (show ¬ (1 : Int32) = 0 by decide)]
      unfold mDownG f_X11_goDown at e2
      unfold f_X11_goDown
      simp only [bnd] at e2 ⊢
      have : gA (gA (gA τ 66 1 (-1)) 66 2 (-1)) 66 3 0 = τ2 := congrArg Prod.snd (Option.some.inj e2)
      rw [this]
theorem ja_w {n P Q : Nat} {σ τ : jT} (h : rAll n P Q σ τ) (x y : Int32) : jaB P Q 119 (f_X10_act 119 x y σ) (f_X11_act 119 x y τ) σ τ := by
  have e : f_X10_act 119 x y σ = f_X10_goAfoot x y σ := by
    unfold f_X10_act
    rw [if_neg (by decide), if_neg (by decide), if_neg (by decide), if_neg (by decide), if_pos rfl]
    exact bind_eta _
  have em : f_X11_act 119 x y τ = ((f_X11_refusesWalk x y τ).bind fun q10 => if 0 ≤ q10.1 then (f_X11_goWalk x y q10.2).bind fun q12 => some (1, q12.2) else some (0, q10.2)) := by
    unfold f_X11_act
    rw [if_neg (by decide), if_neg (by decide), if_neg (by decide), if_neg (by decide), if_pos rfl]
  rw [e, em]
  refine ja_of_act (by decide) (act_walk h x y) (fun c hc e1 => ?_) (fun a τ2 e1 e2 => ?_)
  · rw [e1]
    simp only [bnd]
    rw [if_neg (neg_le hc)]
  · rw [e1]
    simp only [bnd]
    rw [if_pos (by decide), e2]
    simp only [bnd]
theorem ja_l {n P Q : Nat} {σ τ : jT} (h : rAll n P Q σ τ) (x y : Int32) : jaB P Q 108 (f_X10_act 108 x y σ) (f_X11_act 108 x y τ) σ τ := by
  have e : f_X10_act 108 x y σ = f_X10_goLeading x y σ := by
    unfold f_X10_act
    rw [if_neg (by decide), if_pos rfl]
    exact bind_eta _
  have em : f_X11_act 108 x y τ = ((f_X11_refusesLead x y τ).bind fun q10 => if 0 ≤ q10.1 then (f_X11_goLead x y q10.2).bind fun q12 => some (1, q12.2) else some (0, q10.2)) := by
    unfold f_X11_act
    rw [if_neg (by decide), if_pos rfl]
  rw [e, em]
  refine ja_of_act (by decide) (act_lead h x y) (fun c hc e1 => ?_) (fun a τ2 e1 e2 => ?_)
  · rw [e1]
    simp only [bnd]
    rw [if_neg (neg_le hc)]
  · rw [e1]
    simp only [bnd]
    rw [if_pos (by decide), e2]
    simp only [bnd]
theorem ja_z {n P Q : Nat} {σ τ : jT} (h : rAll n P Q σ τ) (x y y' : Int32) : jaB P Q 122 (f_X10_act 122 x y σ) (f_X11_act 122 x y' τ) σ τ := by
  have e : f_X10_act 122 x y σ = f_X10_sleep x σ := by
    unfold f_X10_act
    rw [if_neg (by decide), if_neg (by decide), if_neg (by decide), if_neg (by decide), if_neg (by decide), if_neg (by decide), if_pos rfl]
    exact bind_eta _
  have em : f_X11_act 122 x y' τ = ((f_X11_refusesRest x τ).bind fun q10 => if 0 ≤ q10.1 then (f_X11_goRest x q10.2).bind fun q12 => some (1, q12.2) else some (0, q10.2)) := by
    unfold f_X11_act
    rw [if_neg (by decide), if_neg (by decide), if_neg (by decide), if_neg (by decide), if_neg (by decide), if_pos rfl]
  rw [e, em]
  refine ja_of_act (by decide) (act_rest h x) (fun c hc e1 => ?_) (fun a τ2 e1 e2 => ?_)
  · rw [e1]
    simp only [bnd]
    rw [if_neg (neg_le hc)]
  · rw [e1]
    simp only [bnd]
    rw [if_pos (by decide), e2]
    simp only [bnd]
theorem ja_x {n P Q : Nat} {σ τ : jT} (h : rAll n P Q σ τ) (x y : Int32) : jaB P Q 120 (f_X10_act 120 x y σ) (f_X11_act 120 x y τ) σ τ := by
  have e : f_X10_act 120 x y σ = f_X10_changeMaps x y σ := by
    unfold f_X10_act
    rw [if_neg (by decide), if_neg (by decide), if_neg (by decide), if_neg (by decide), if_neg (by decide), if_pos rfl]
    exact bind_eta _
  have em : f_X11_act 120 x y τ = ((f_X11_refusesDeal x y τ).bind fun q10 => if 0 ≤ q10.1 then (f_X11_goDeal x y q10.2).bind fun q12 => some (1, q12.2) else some (0, q10.2)) := by
    unfold f_X11_act
    rw [if_neg (by decide), if_neg (by decide), if_neg (by decide), if_neg (by decide), if_neg (by decide), if_neg (by decide)]
  rw [e, em]
  refine ja_of_act (by decide) (act_deal h x y) (fun c hc e1 => ?_) (fun a τ2 e1 e2 => ?_)
  · rw [e1]
    simp only [bnd]
    rw [if_neg (neg_le hc)]
  · rw [e1]
    simp only [bnd]
    rw [if_pos (by decide), e2]
    simp only [bnd]
theorem ja_r {n P Q N : Nat} {σ τ : jT} (h : rAll n P Q σ τ) (hN : N ≤ 99) (y y' : Int32) : jaB P Q 114 (f_X10_act 114 (nI N) y σ) (f_X11_act 114 (nI N) y' τ) σ τ := by
  have e : f_X10_act 114 (nI N) y σ = f_X10_goOn (nI N) σ := by
    unfold f_X10_act
    rw [if_neg (by decide), if_neg (by decide), if_neg (by decide), if_pos rfl]
    exact bind_eta _
  have em : f_X11_act 114 (nI N) y' τ = ((f_X11_isRidden τ).bind fun q14 => if ¬ q14.1 = 0 then (f_X11_goRide_66 (nI N) q14.2).bind fun q16 => some (1, (gs q16.2 4193 ((q14.2.1 4193) + q16.1))) else some (0, q14.2)) := by
    unfold f_X11_act
    rw [if_neg (by decide), if_neg (by decide), if_neg (by decide), if_pos rfl]
  rw [e, em]
  rcases on_both h (nI N) with ⟨N', hN', eN, hc⟩ | ⟨hx, -⟩
  · rcases hc with ⟨c1, c2⟩ | ⟨c1, k, σ2, τ2, hk, c2, c3, c4, ⟨c5, c5'⟩, c6, -⟩
    · rw [c1, c2]
      simp only [bnd]
      rw [iNT]
      exact Or.inl ⟨-2, by decide, rfl, rfl⟩
    · rw [c1, c2]
      simp only [bnd]
      rw [if_pos (show ¬ (1 : Int32) = 0 by decide), c3]
      simp only [bnd]
      refine Or.inr ⟨nI k, σ2, gs τ2 4193 (τ.1 4193 + nI k), nI_pos (by omega), rfl, rfl, c5, c5', (coreMn_of c6.1 c6.2 : coreMn τ2 = coreMn τ), c6.2 80 (by decide) (by decide), c6.2 81 (by decide) (by decide), c6.1 4172 (by decide) (by decide) (by decide) (by decide), ?_, c4⟩
      rw [if_pos rfl]; rfl
  · rcases hx with w | w
    · exact absurd w (nI_pos (by omega))
    · have := (ja_le (a := 100) (b := N) (by omega) (by omega)).1 w; omega
