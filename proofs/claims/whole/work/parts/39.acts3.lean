/-! ===== mount, dismount, deal ===== -/
/-- what mount() answers, in the model, once it is done -/
def mMountG (x y : Int32) (τ : jT) : Option (Int32 × jT) :=
  (f_X11_goMount x y τ).bind fun q4 =>
    if jx_in (q4.2.2 66 0) 10 then
    if (q4.2.2 67 (q4.2.2 66 0).toNatClampNeg) ≤ 0 then
      some (0, q4.2)
    else
      (f_X11_viewOf_66 x (q4.2.2 66 0) q4.2).bind fun q7 =>
      (f_X11_viewOf_66 y (q4.2.2 66 0) q7.2).bind fun q8 =>
      if q7.1 = q8.1 then
        some (0, q8.2)
      else
        some (1, q8.2)
    else none
theorem act_mount {n P Q : Nat} {σ τ : jT} (h : rAll n P Q σ τ) (x y : Int32) : rAct P Q (f_X10_getOn x y) (f_X11_refusesMount x y) (mMountG x y) σ τ := by
  obtain ⟨-, hL, ⟨hQ, q1, q2, q3⟩, ⟨hS, hcap⟩, -⟩ := id h
  have hP := hL.1
  rcases two_cases h x y with ⟨r, g, hr, hg, hne, rfl, rfl, t1, t2⟩ | ⟨t1, t2⟩
  · obtain ⟨-, ⟨a, ha, l1, l2⟩, -⟩ := hS.2.2.2.2.2 r hr
    obtain ⟨-, ⟨b, hb, l3, l4⟩, -⟩ := hS.2.2.2.2.2 g hg
    obtain ⟨⟨hh, hhp, n1, n2⟩, -⟩ := id hS
    have e10 : (10 : Int32) + nI r = nI (10 + r) := ja_add 10 r
    have e10' : (10 : Int32) + nI g = nI (10 + g) := ja_add 10 g
    have hlt : ∀ {z : Nat}, rPl P z → z < 2 ^ 31 := fun hz => by rcases hz with z | z <;> omega
    rcases rid_both h with ⟨-, b1, b2⟩ | ⟨-, b1, b2⟩
    · by_cases c1 : a = hh
      · by_cases c2 : b = hh
        · subst c1 c2
          -- both are where it is
          have hS1 := rS_seat hQ hS hr hg hne (l1.trans n1.symm) (l3.trans n1.symm)
          have hm0 : f_X11_refusesMount (nI r) (nI g) τ = some (0, τ) := by
            unfold f_X11_refusesMount
            rw [t2]
            simp only [Option.bind_some]
            rw [if_pos (by decide), b2]
            simp only [Option.bind_some]
            rw [if_pos trivial, e10, e10', if_pos (ja_in (by omega) (by omega)), nI_clamp (by omega), l2, n2, if_neg (fun z => z rfl), if_pos (ja_in (by omega) (by omega)), nI_clamp (by omega), l4, if_neg (fun z => z rfl)]
          have hL1 : ∀ τ', (∀ o, o ≠ 79 → τ'.2 o = τ.2 o) → (∀ i, i ≠ 4189 → τ'.1 i = τ.1 i) → rL P (gA (gA (gA σ 13 25 (nI r)) 13 26 (nI g)) 13 27 0) (gA (gA (gA τ' 66 1 (nI r)) 66 2 (nI g)) 66 3 0) := by
            intro τ' g1 g2
            show rL P σ τ'
            unfold rL at hL ⊢
            rw [g2 _ (by decide), g2 _ (by decide), g1 67 (by decide), g1 68 (by decide)]
            exact hL
          have hS2 : ∀ τ', (∀ o, o ≠ 79 → τ'.2 o = τ.2 o) → rS P Q ((gA (gA (gA τ' 66 1 (nI r)) 66 2 (nI g)) 66 3 0).2 70) ((gA (gA (gA σ 13 25 (nI r)) 13 26 (nI g)) 13 27 0).2 13) ((gA (gA (gA τ' 66 1 (nI r)) 66 2 (nI g)) 66 3 0).2 66) := by
            intro τ' g1
            show rS P Q (τ'.2 70) _ _
            rw [ju_gA, ju_gA, ju_gA, ju_gA, ju_gA, ju_gA, g1 66 (by decide), g1 70 (by decide)]
            exact hS1
          have hcap' : ∀ s, s < Q → (gA (gA (gA σ 13 25 (nI r)) 13 26 (nI g)) 13 27 0).2 13 s ≤ (gA (gA (gA σ 13 25 (nI r)) 13 26 (nI g)) 13 27 0).2 6 s := by
            intro s hs
            show (gA (gA (gA σ 13 25 (nI r)) 13 26 (nI g)) 13 27 0).2 13 s ≤ σ.2 6 s
            rw [ju_gA, ju_ne _ _ (by omega), ju_gA, ju_ne _ _ (by omega), ju_gA, ju_ne _ _ (by omega)]
            exact hcap s hs
          have hc : ∀ A, ((f_X10_viewAt (nI r) (nI b) (gA (gA (gA σ 13 25 (nI r)) 13 26 (nI g)) 13 27 0)).bind fun q11 => (f_X10_viewAt (nI g) (nI b) q11.2).bind fun q12 => if q11.1 = q12.1 then some ((0 : Int32), q12.2) else some (1, q12.2)) = A → f_X10_getOn (nI r) (nI g) σ = A := by
            intro A hA
            unfold f_X10_getOn
            rw [t1]
            simp only [Option.bind_some]
            rw [if_pos (by decide), b1]
            simp only [Option.bind_some]
            rw [if_pos trivial]
            unfold f_X8_horse
            simp only [Option.bind_some]
            rw [c_placeOf (by omega), l1, n1]
            simp only [Option.bind_some]
            rw [if_neg (fun z => z trivial), c_placeOf (by omega), l3]
            simp only [Option.bind_some]
            rw [if_pos trivial]
            exact hA
          rcases hhp with hhp | ⟨rfl, hP0⟩
          · obtain ⟨w, v, hw3, w1, w2, hv, v1, v2⟩ := v_gen (hL1 τ (fun _ _ => rfl) (fun _ _ => rfl)) hQ (hS2 τ (fun _ _ => rfl)) hr hhp
            obtain ⟨w', v', hw3', w1', w2', hv', v1', v2'⟩ := v_gen (hL1 τ (fun _ _ => rfl) (fun _ _ => rfl)) hQ (hS2 τ (fun _ _ => rfl)) hg hhp
            have hwe : w' = w := (ja_eq (by omega) (by omega)).mp (w1'.symm.trans w1)
            subst hwe
            by_cases h0 : w' = 0
            · refine Or.inr ⟨0, gA (gA (gA σ 13 25 (nI r)) 13 26 (nI g)) 13 27 0, by decide, hc _ ?_, hm0, rfl, fun τ' g1 g2 => ?_⟩
              · rw [v1]
                simp only [Option.bind_some]
                rw [v1']
                simp only [Option.bind_some]
                rw [if_pos h0, if_pos h0, if_pos rfl]
              · refine ⟨gA (gA (gA τ' 66 1 (nI r)) 66 2 (nI g)) 66 3 0, ?_, rfl, rfl, hS2 τ' g1, hcap'⟩
                unfold mMountG f_X11_goMount
                simp only [Option.bind_some]
                have e0 : (gA (gA (gA τ' 66 1 (nI r)) 66 2 (nI g)) 66 3 0).2 66 0 = nI b := by
                  show τ'.2 66 0 = _
                  rw [g1 66 (by decide), n2]
                have e1 : (gA (gA (gA τ' 66 1 (nI r)) 66 2 (nI g)) 66 3 0).2 67 b = nI w' := by
                  show τ'.2 67 b = _
                  rw [g1 67 (by decide)]; exact w2
                rw [e0, if_pos (ja_in (by omega) (by omega)), nI_clamp (by omega), e1, h0, if_pos (by decide)]
            · have m1 : ∀ τ', (∀ o, o ≠ 79 → τ'.2 o = τ.2 o) → (∀ i, i ≠ 4189 → τ'.1 i = τ.1 i) → f_X11_viewOf_66 (nI r) (nI b) (gA (gA (gA τ' 66 1 (nI r)) 66 2 (nI g)) 66 3 0) = some (nI v, gA (gA (gA τ' 66 1 (nI r)) 66 2 (nI g)) 66 3 0) ∧ f_X11_viewOf_66 (nI g) (nI b) (gA (gA (gA τ' 66 1 (nI r)) 66 2 (nI g)) 66 3 0) = some (nI v', gA (gA (gA τ' 66 1 (nI r)) 66 2 (nI g)) 66 3 0) := by
                intro τ' g1 g2
                obtain ⟨w2_, v2_, k1, k2, k3, k4, k5, k6⟩ := v_gen (hL1 τ' g1 g2) hQ (hS2 τ' g1) hr hhp
                obtain ⟨w3_, v3_, j1, j2, j3, j4, j5, j6⟩ := v_gen (hL1 τ' g1 g2) hQ (hS2 τ' g1) hg hhp
                have u1 : w2_ = w' := (ja_eq (by omega) (by omega)).mp (k2.symm.trans w1)
                have u2 : w3_ = w' := (ja_eq (by omega) (by omega)).mp (j2.symm.trans w1)
                subst u1
                subst u2
                have u3 := k5.symm.trans v1
                have u4 := j5.symm.trans v1'
                simp only [if_neg h0, Option.some.injEq, Prod.mk.injEq] at u3 u4
                have u5 := (ja_eq (by omega) (by omega)).mp u3.1
                have u6 := (ja_eq (by omega) (by omega)).mp u4.1
                rw [← u5, ← u6]
                exact ⟨(k6 (by omega)).2, (j6 (by omega)).2⟩
              refine Or.inr ⟨if nI v = nI v' then 0 else 1, gA (gA (gA σ 13 25 (nI r)) 13 26 (nI g)) 13 27 0, by split <;> decide, hc _ ?_, hm0, rfl, fun τ' g1 g2 => ?_⟩
              · rw [v1]
                simp only [Option.bind_some]
                rw [v1']
                simp only [Option.bind_some]
                rw [if_neg h0, if_neg h0]
                by_cases hvv : nI v = nI v'
                · rw [if_pos hvv, if_pos hvv]
                · rw [if_neg hvv, if_neg hvv]
              · refine ⟨gA (gA (gA τ' 66 1 (nI r)) 66 2 (nI g)) 66 3 0, ?_, rfl, rfl, hS2 τ' g1, hcap'⟩
                unfold mMountG f_X11_goMount
                simp only [Option.bind_some]
                have e0 : (gA (gA (gA τ' 66 1 (nI r)) 66 2 (nI g)) 66 3 0).2 66 0 = nI b := by
                  show τ'.2 66 0 = _
                  rw [g1 66 (by decide), n2]
                have e1 : (gA (gA (gA τ' 66 1 (nI r)) 66 2 (nI g)) 66 3 0).2 67 b = nI w' := by
                  show τ'.2 67 b = _
                  rw [g1 67 (by decide)]; exact w2
                obtain ⟨z1, z2⟩ := m1 τ' g1 g2
                rw [e0, if_pos (ja_in (by omega) (by omega)), nI_clamp (by omega), e1, if_neg (nI_nle (by omega) (by omega)), z1]
                simp only [Option.bind_some]
                rw [z2]
                simp only [Option.bind_some]
                by_cases hvv : nI v = nI v'
                · rw [if_pos hvv, if_pos hvv]
                · rw [if_neg hvv, if_neg hvv]
          · subst hP0
            obtain ⟨-, p1, p2, -, -, p00⟩ := id hL
            refine Or.inr ⟨0, gA (gA (gA σ 13 25 (nI r)) 13 26 (nI g)) 13 27 0, by decide, hc _ ?_, hm0, rfl, fun τ' g1 g2 => ?_⟩
            · have key : ∀ s, s < 6 → s < Q → f_X10_viewAt (nI s) (nI 0) (gA (gA (gA σ 13 25 (nI r)) 13 26 (nI g)) 13 27 0) = some (-1, gA (gA (gA σ 13 25 (nI r)) 13 26 (nI g)) 13 27 0) := by
                intro s hs hsQ
                unfold f_X10_viewAt
                obtain ⟨g', M, j, hg', hj, hM, hb', f1, f2, f3⟩ := rS_guide (hS2 τ (fun _ _ => rfl)) hsQ
                rw [c_guide (by omega) (by omega) (hb'.imp (fun z => ⟨z.1, z.2.2⟩) (fun z => z.1)), f1]
                simp only [Option.bind_some]
                rw [c_viewOf_f (σ := gA (gA (gA σ 13 25 (nI r)) 13 26 (nI g)) 13 27 0) (P := 0) p1 (Or.inr (nI_le (by omega) (by omega)))]
                rfl
              rw [key r (by omega) hr]
              simp only [Option.bind_some]
              rw [key g (by omega) hg]
              rfl
            · refine ⟨gA (gA (gA τ' 66 1 (nI r)) 66 2 (nI g)) 66 3 0, ?_, rfl, rfl, hS2 τ' g1, hcap'⟩
              unfold mMountG f_X11_goMount
              simp only [Option.bind_some]
              have e0 : (gA (gA (gA τ' 66 1 (nI r)) 66 2 (nI g)) 66 3 0).2 66 0 = nI 0 := by
                show τ'.2 66 0 = _
                rw [g1 66 (by decide), n2]
              have e1 : (gA (gA (gA τ' 66 1 (nI r)) 66 2 (nI g)) 66 3 0).2 67 0 = 0 := by
                show τ'.2 67 0 = _
                rw [g1 67 (by decide)]; exact p00 rfl
              rw [e0, if_pos (ja_in (by omega) (by omega)), nI_clamp (by omega), e1, if_pos (by decide)]
        · have hne2 : ¬ nI b = nI hh := fun z => c2 ((ja_eq (hlt hb) (hlt hhp)).mp z)
          subst c1
          refine Or.inl ⟨-3, by decide, ?_, ?_⟩
          · unfold f_X10_getOn
            rw [t1]
            simp only [Option.bind_some]
            rw [if_pos (by decide), b1]
            simp only [Option.bind_some]
            rw [if_pos trivial]
            unfold f_X8_horse
            simp only [Option.bind_some]
            rw [c_placeOf (by omega), l1, n1]
            simp only [Option.bind_some]
            rw [if_neg (fun z => z trivial), c_placeOf (by omega), l3]
            simp only [Option.bind_some]
            rw [if_neg hne2]
          · unfold f_X11_refusesMount
            rw [t2]
            simp only [Option.bind_some]
            rw [if_pos (by decide), b2]
            simp only [Option.bind_some]
            rw [if_pos trivial, e10, e10', if_pos (ja_in (by omega) (by omega)), nI_clamp (by omega), l2, n2, if_neg (fun z => z rfl), if_pos (ja_in (by omega) (by omega)), nI_clamp (by omega), l4, if_pos hne2]
      · have hne2 : ¬ nI a = nI hh := fun z => c1 ((ja_eq (hlt ha) (hlt hhp)).mp z)
        refine Or.inl ⟨-3, by decide, ?_, ?_⟩
        · unfold f_X10_getOn
          rw [t1]
          simp only [Option.bind_some]
          rw [if_pos (by decide), b1]
          simp only [Option.bind_some]
          rw [if_pos trivial]
          unfold f_X8_horse
          simp only [Option.bind_some]
          rw [c_placeOf (by omega), l1, n1]
          simp only [Option.bind_some]
          rw [if_pos hne2]
        · unfold f_X11_refusesMount
          rw [t2]
          simp only [Option.bind_some]
          rw [if_pos (by decide), b2]
          simp only [Option.bind_some]
          rw [if_pos trivial, e10, if_pos (ja_in (by omega) (by omega)), nI_clamp (by omega), l2, n2, if_pos hne2]
    · refine Or.inl ⟨-2, by decide, ?_, ?_⟩
      · unfold f_X10_getOn
        rw [t1]
        simp only [Option.bind_some]
        rw [if_pos (by decide), b1]
        rfl
      · unfold f_X11_refusesMount
        rw [t2]
        simp only [Option.bind_some]
        rw [if_pos (by decide), b2]
        rfl
  · refine Or.inl ⟨-1, by decide, ?_, ?_⟩
    · unfold f_X10_getOn
      rw [t1]; rfl
    · unfold f_X11_refusesMount
      rw [t2]; rfl
theorem eq_mount {n P Q : Nat} {σ τ : jT} (h : rAll n P Q σ τ) (x y : Int32) : rEq n (f_X10_mount x y σ) (f_X11_mount x y τ) := by
  have := eq_act (fg := mMountG x y) h (fun σ1 τ1 h1 => act_mount h1 x y)
  have e : f_X11_mount x y τ = (f_X11_refusesMount x y (gs τ 4172 0)).bind fun q1 => if 0 ≤ q1.1 then (f_X11_remember_66 q1.2).bind fun q3 => (mMountG x y q3.2).bind fun q4 => some (q4.1, q4.2) else some (q1.1, q1.2) := by
    unfold f_X11_mount mMountG
    simp only [jb_id]
  rw [e]
  exact this
/-- dismount(), refused or done, in the model -/
def mDownR (τ : jT) : Option (Int32 × jT) := (f_X11_isRidden τ).bind fun q1 => if ¬ q1.1 = 0 then some (0, q1.2) else some (-2, q1.2)
def mDownG (τ : jT) : Option (Int32 × jT) := (f_X11_goDown τ).bind fun q4 => some (q4.2.2 66 0, q4.2)
theorem act_down {n P Q : Nat} {σ τ : jT} (h : rAll n P Q σ τ) : rAct P Q f_X10_getOff mDownR mDownG σ τ := by
  obtain ⟨-, hL, ⟨hQ, q1, q2, q3⟩, ⟨hS, hcap⟩, -⟩ := id h
  obtain ⟨⟨hh, hhp, n1, n2⟩, -⟩ := id hS
  have hP := hL.1
  have hlt : hh < 2 ^ 31 := by rcases hhp with z | z <;> omega
  rcases rid_both h with ⟨-, b1, b2⟩ | ⟨-, b1, b2⟩
  · refine Or.inl ⟨-2, by decide, ?_, ?_⟩
    · unfold f_X10_getOff
      rw [b1]; rfl
    · unfold mDownR
      rw [b2]; rfl
  · refine Or.inr ⟨nI hh, gA (gA (gA σ 13 25 (-1)) 13 26 (-1)) 13 27 0, nI_pos hlt, ?_, ?_, rfl, fun τ' g1 g2 => ?_⟩
    · unfold f_X10_getOff
      rw [b1]
      simp only [Option.bind_some]
      rw [if_pos (by decide), ← n1]
      rfl
    · unfold mDownR
      rw [b2]; rfl
    · refine ⟨gA (gA (gA τ' 66 1 (-1)) 66 2 (-1)) 66 3 0, ?_, rfl, rfl, ?_, ?_⟩
      · unfold mDownG f_X11_goDown
        simp only [Option.bind_some]
        have e0 : (gA (gA (gA τ' 66 1 (-1)) 66 2 (-1)) 66 3 0).2 66 0 = nI hh := by
          show τ'.2 66 0 = _
          rw [g1 66 (by decide), n2]
        rw [e0]
      · show rS P Q (τ'.2 70) _ _
        rw [ju_gA, ju_gA, ju_gA, ju_gA, ju_gA, ju_gA, g1 66 (by decide), g1 70 (by decide)]
        exact rS_seat0 hQ hS
      · intro s hs
        show (gA (gA (gA σ 13 25 (-1)) 13 26 (-1)) 13 27 0).2 13 s ≤ σ.2 6 s
        rw [ju_gA, ju_ne _ _ (by omega), ju_gA, ju_ne _ _ (by omega), ju_gA, ju_ne _ _ (by omega)]
        exact hcap s hs
theorem eq_dismount {n P Q : Nat} {σ τ : jT} (h : rAll n P Q σ τ) : rEq n (f_X10_dismount σ) (f_X11_dismount τ) := by
  have := eq_act (fr := mDownR) (fg := mDownG) h (fun σ1 τ1 h1 => act_down h1)
  have e : f_X11_dismount τ = (mDownR (gs τ 4172 0)).bind fun q1 => if 0 ≤ q1.1 then (f_X11_remember_66 q1.2).bind fun q3 => (mDownG q3.2).bind fun q4 => some (q4.1, q4.2) else some (q1.1, q1.2) := by
    have h0 : rAll n P Q σ (gs τ 4172 0) := rAll_core h rfl rfl
    unfold f_X11_dismount mDownR
    rcases rid_both h0 with ⟨-, b1, b2⟩ | ⟨-, b1, b2⟩
    · rw [b2]; rfl
    · rw [b2]
      simp only [Option.bind_some]
      rw [if_pos (by decide), if_pos (by decide)]
      simp only [Option.bind_some]
      rw [if_pos (by decide)]
      simp only [jb_id]
      rfl
  rw [e]
  exact this
