/-! ===== a journey ===== -/
theorem c_jstep {L n i fu : Nat} {d : Nat → Nat} {σ : jT} {st : Int32} (h : bX L 60 d σ) (hn : n ≤ 40) (hk : aOk L d i) (he : sIn L 60 d (aEnd L d i) 59 59 ∨ aEnd L d i = L) :
    ∃ x y, (¬ d i = 100 → x = aX L d i) ∧ (aTwo (d i) → y = nI (d (i + 2) - 48)) ∧ f_X10_journey_b54 (fu + 1) (nI n) st 0 (nI n) (gs σ 67 (nI i)) = (f_X10_act (nI (d i)) x y (gs σ 67 (nI (if sIn L 60 d (aEnd L d i) 59 59 then aEnd L d i + 1 else aEnd L d i)))).bind fun q4 => if 0 ≤ q4.1 then f_X10_journey_b148 (f_X10_journey_b54 fu) (nI n) st (nI n) (nI (d i)) q4.1 0 q4.2 else f_X10_journey_b148 (f_X10_journey_b54 fu) (nI n) st (nI n) (nI (d i)) q4.1 1 q4.2 := by
  obtain ⟨x, y, s1, a1, a2, a3, a4⟩ := c_args h hk he
  obtain ⟨hE1, hE2, hE3⟩ := aOk_end hk
  obtain ⟨h1, h2, -⟩ := hk
  have hb := (h.2.2.2.2 i h2).1
  refine ⟨x, y, a3, a4, ?_⟩
  have hov : f_X9_isOver (gs σ 67 (nI i)) = some (0, gs σ 67 (nI i)) := by
    unfold f_X9_isOver
    rw [c_peek (bX_at h (by omega)), sgn_t h1 h2]
    simp only [bnd]
    rw [if_pos (ja_neg1 (by omega))]
  rw [f_X10_journey_b54, if_neg (show ¬ (60 : Int32) ≤ nI n from fun c => by have := (ja_le (a := 60) (by omega) (by omega)).1 c; omega), if_neg (fun q => q rfl), hov]
  simp only [bnd]
  rw [iNT, b_next h h1 h2]
  simp only [bnd]
  have e101 : (if ¬ nI (d i) = 114 then f_X10_journey_b101 (f_X10_journey_b54 fu) (nI n) st (nI n) (nI (d i)) 1 (gs σ 67 (nI (i + 1))) else f_X10_journey_b101 (f_X10_journey_b54 fu) (nI n) st (nI n) (nI (d i)) 2 (gs σ 67 (nI (i + 1)))) = f_X10_journey_b101 (f_X10_journey_b54 fu) (nI n) st (nI n) (nI (d i)) (if d i = 114 then 2 else 1) (gs σ 67 (nI (i + 1))) := by
    by_cases k : d i = 114
    · rw [if_neg (show ¬ ¬ nI (d i) = 114 by rw [k]; decide), if_pos k]
    · rw [if_pos (show ¬ nI (d i) = 114 from nIne (b := 114) (by omega) (by omega) k), if_neg k]
  rw [e101]
  unfold f_X10_journey_b101
  rw [a1]
  simp only [bnd]
  rw [a2]
  simp only [bnd]
  have et : f_X9_take 59 (gs σ 67 (nI (aEnd L d i))) = if sIn L 60 d (aEnd L d i) 59 59 then some (1, gs σ 67 (nI (aEnd L d i + 1))) else some (0, gs σ 67 (nI (aEnd L d i))) := b_take (a := 59) h (show aEnd L d i ≤ 80 by omega) (by omega)
  rw [et]
  by_cases c : sIn L 60 d (aEnd L d i) 59 59
  · rw [if_pos c, if_pos c]
    simp only [bnd]
  · rw [if_neg c, if_neg c]
    simp only [bnd]
theorem c_jfail {n fu : Nat} {st k v : Int32} {σ : jT} (hn : n ≤ 40) : f_X10_journey_b148 (f_X10_journey_b54 (fu + 1)) (nI n) st (nI n) k v 1 σ = f_X10_journey_b190 (nI n) st 1 σ := by
  unfold f_X10_journey_b148
  rw [if_neg (show ¬ (1 : Int32) = 0 by decide)]
  unfold f_X10_journey_b161
  rw [if_pos (show ¬ (1 : Int32) = 0 by decide)]
  unfold f_X10_journey_b176 f_X10_journey_b182
  rw [Int32.add_zero, Int32.add_zero, nS, f_X10_journey_b54, if_neg (show ¬ (60 : Int32) ≤ nI (n + 1) from fun c => by have := (ja_le (a := 60) (by omega) (by omega)).1 c; omega), if_pos (show ¬ (1 : Int32) = 0 by decide)]
theorem c_jgo {n fu : Nat} {st k v : Int32} {σ : jT} : f_X10_journey_b148 (f_X10_journey_b54 fu) (nI n) st (nI n) k v 0 σ = f_X10_journey_b54 fu (nI (n + 1)) (if k = 114 then st + v else st) 0 (nI (n + 1)) σ := by
  unfold f_X10_journey_b148
  rw [if_pos rfl]
  unfold f_X10_journey_b161
  rw [if_neg (fun q => q rfl)]
  unfold f_X10_journey_b176 f_X10_journey_b182
  rw [nS]
  by_cases c : k = 114
  · rw [if_pos c, if_pos c]
  · rw [if_neg c, if_neg c, Int32.add_zero]
theorem bX_co {L M : Nat} {d : Nat → Nat} {σ σ' : jT} (h : bX L M d σ) (h1 : σ'.1 65 = σ.1 65) (h2 : σ'.1 66 = σ.1 66) (h3 : σ'.2 2 = σ.2 2) : bX L M d σ' := by
  unfold bX
  rw [h1, h2, h3]; exact h
theorem jr_run {P Q L K : Nat} {d : Nat → Nat} (hL : L ≤ 80) (hK : K ≤ 31) (he : ∀ p, p < K → (p + 1 < K ∧ sIn L 60 d (aEnd L d (aS L d p)) 59 59) ∨ (p + 1 = K ∧ aEnd L d (aS L d p) = L)) : ∀ (m n fu fu' : Nat) (σ τ : jT), n + m = K → m + 1 < fu → m < fu' → rAll 5000 P Q σ τ → bX L 60 d σ → σ.1 67 = nI (if n = K then L else aS L d n) → jkI L d K τ →
    ∃ k σ' τ', k ≤ K ∧ f_X10_journey_b54 fu (nI n) (τ.1 4193) 0 (nI n) σ = f_X10_journey_b190 (nI k) (τ'.1 4193) (if k = K then 0 else 1) σ' ∧ f_X11_journey_b122 fu' (nI K) (nI n) τ = f_X11_journey_b168 (nI K) (nI k) τ' ∧ coreCn σ' = coreCn σ ∧ coreMn τ' = coreMn τ ∧ τ'.2 80 = τ.2 80 ∧ τ'.1 4172 = τ.1 4172 ∧ rN P Q σ' τ' := by
  intro m
  induction m with
  | zero =>
    intro n fu fu' σ τ hn hf hf' h hb h67 hj
    obtain ⟨fu, rfl⟩ : ∃ f', fu = f' + 1 := ⟨fu - 1, by omega⟩
    obtain ⟨fu', rfl⟩ : ∃ f', fu' = f' + 1 := ⟨fu' - 1, by omega⟩
    have hnK : n = K := by omega
    rw [if_pos hnK] at h67
    obtain ⟨-, -, -, hrN, -⟩ := id h
    refine ⟨K, σ, τ, by omega, ?_, ?_, rfl, rfl, rfl, rfl, hrN⟩
    · have hc : cX L 60 L d σ := ⟨hL, by omega, hL, hb.2.2.1, hb.2.2.2.1, h67, hb.2.2.2.2⟩
      have hov : f_X9_isOver σ = some (1, σ) := by
        unfold f_X9_isOver
        rw [c_peek hc, sgn_f (Or.inr (Nat.le_refl L))]
        simp only [bnd]
        rw [iNT]
      rw [f_X10_journey_b54, if_neg (show ¬ (60 : Int32) ≤ nI n from fun c => by have := (ja_le (a := 60) (by omega) (by omega)).1 c; omega), if_neg (fun q => q rfl), hov]
      simp only [bnd]
      rw [if_pos (show ¬ (1 : Int32) = 0 by decide), if_pos trivial, hnK]
    · rw [f_X11_journey_b122, if_pos ((ja_le (by omega) (by omega)).2 (by omega)), hnK]
  | succ m ih =>
    intro n fu fu' σ τ hn hf hf' h hb h67 hj
    obtain ⟨fu, rfl⟩ : ∃ f', fu = f' + 1 := ⟨fu - 1, by omega⟩
    obtain ⟨fu, rfl⟩ : ∃ f', fu = f' + 1 := ⟨fu - 1, by omega⟩
    obtain ⟨fu', rfl⟩ : ∃ f', fu' = f' + 1 := ⟨fu' - 1, by omega⟩
    rw [if_neg (show ¬ n = K by omega)] at h67
    obtain ⟨k1, k2, k3, k4⟩ := hj n (by omega)
    have he' : sIn L 60 d (aEnd L d (aS L d n)) 59 59 ∨ aEnd L d (aS L d n) = L := by
      rcases he n (by omega) with q | q
      · exact Or.inl q.2
      · exact Or.inr q.2
    obtain ⟨x, y, a1, a2, a3⟩ := c_jstep (n := n) (fu := fu + 1) (st := τ.1 4193) hb (by omega) k1 he'
    rw [gs_same h67] at a3
    rw [a3]
    have hnx : (if sIn L 60 d (aEnd L d (aS L d n)) 59 59 then aEnd L d (aS L d n) + 1 else aEnd L d (aS L d n)) = if n + 1 = K then L else aS L d (n + 1) := by
      rcases he n (by omega) with ⟨q1, q2⟩ | ⟨q1, q2⟩
      · rw [if_pos q2, if_neg (by omega)]; rfl
      · rw [if_pos q1, if_neg (fun q => by have := q.2.1; omega), q2]
    rw [hnx]
    have h1 : rAll 5000 P Q (gs σ 67 (nI (if n + 1 = K then L else aS L d (n + 1)))) τ := rAll_core h rfl rfl
    have hj2 := ja_all (x := x) (y := y) (x' := τ.2 81 (3 * n + 1)) (y' := τ.2 81 (3 * n + 2)) h1 k1 (fun q => ⟨a1 q, k3 q⟩) (fun q => (a2 q).trans (k4 q).symm)
    have em : f_X11_journey_b122 (fu' + 1) (nI K) (nI n) τ = (f_X11_act (nI (d (aS L d n))) (τ.2 81 (3 * n + 1)) (τ.2 81 (3 * n + 2)) τ).bind fun q5 => if q5.1 = 0 then f_X11_journey_b168 (nI K) (nI n) q5.2 else f_X11_journey_b122 fu' (nI K) (nI n + 1) q5.2 := by
      rw [f_X11_journey_b122, if_neg (fun c => by have := (ja_le (by omega) (by omega)).1 c; omega), x3 (show n ≤ 40 by omega), nS, show nI (3 * n) + 2 = nI (3 * n + 2) from ja_add _ 2, if_pos (ja_in (by omega) (by omega)), if_pos (ja_in (by omega) (by omega)), if_pos (ja_in (by omega) (by omega)), nI_clamp (by omega), nI_clamp (by omega), nI_clamp (by omega), k2]
    rw [em]
    rcases hj2 with ⟨c, hc, b1, b2⟩ | ⟨v, σ2, τ2, hv, b1, b2, r1, r2, r3, r4, r5, r6, r7, r8⟩
    · rw [b1, b2]
      simp only [bnd]
      obtain ⟨-, -, -, hrN, -⟩ := id h1
      rw [if_neg (neg_le hc), c_jfail (by omega), iT]
      refine ⟨n, gs σ 67 (nI (if n + 1 = K then L else aS L d (n + 1))), τ, by omega, ?_, rfl, rfl, rfl, rfl, rfl, hrN⟩
      rw [if_neg (show ¬ n = K by omega)]
    · rw [b1, b2]
      simp only [bnd]
      rw [if_pos (Int32.not_lt.1 hv), c_jgo, if_neg (show ¬ (1 : Int32) = 0 by decide), nS, ← r7]
      have h2 : rAll 5000 P Q σ2 τ2 := rBut_all (rBut_core (rBut_of h1) r1 r3) r8
      have r1' := r1
      simp only [coreCn, Prod.mk.injEq] at r1'
      obtain ⟨⟨u1, u2⟩, -⟩ := r1'
      obtain ⟨k, σ', τ', w1, w2, w3, w4, w5, w6, w7, w8⟩ := ih (n + 1) (fu + 1) fu' σ2 τ2 (by omega) (by omega) (by omega) h2 (bX_co hb u1 (r2 66 (by omega)) u2) (r2 67 (by omega)) (by unfold jkI; rw [r5]; exact hj)
      exact ⟨k, σ', τ', w1, w2, w3, w4.trans r1, w5.trans r3, w6.trans r4, w7.trans r6, w8⟩
theorem rAll_5 {n P Q : Nat} {σ σ' τ τ' : jT} (h : rAll n P Q σ τ) (hn : n ≤ 5000) (h1 : coreCt σ' = coreCt σ) (h2 : coreMt τ' = coreMt τ) (hP : rP P σ' τ') : rAll 5000 P Q σ' τ' := by
  simp only [coreCt, Prod.mk.injEq] at h1
  simp only [coreMt, Prod.mk.injEq] at h2
  obtain ⟨⟨a3, a4, a5, a6⟩, ⟨a7, a8⟩, a9, ⟨a10, a11⟩, ⟨a12, a13, a14⟩, ⟨a15, a16⟩, ⟨a17, a18⟩⟩ := h1
  obtain ⟨⟨b3, b4, b5, b6⟩, ⟨b7, b8, b9⟩, b10, ⟨b11, b12⟩, ⟨b13, b14⟩, ⟨b15, b16, b17, b18⟩, ⟨b19, b20⟩⟩ := h2
  simp only [rAll, rL, rR, rN, rU, rH, rK, rW] at h ⊢
  simp only [a3, a4, a5, a6, a7, a8, a9, a10, a11, a12, a13, a14, a15, a16, a17, a18, b3, b4, b5, b6, b7, b8, b9, b10, b11, b12, b13, b14, b15, b16, b17, b18, b19, b20]
  obtain ⟨c, b, hc, hk⟩ := h.2.2.2.2.2.2.1
  exact ⟨fun q => absurd q (by omega), h.2.1, h.2.2.1, h.2.2.2.1, h.2.2.2.2.1, h.2.2.2.2.2.1, ⟨c, b, by omega, hk⟩, h.2.2.2.2.2.2.2.1, hP⟩
theorem rAll_back {n P Q c : Nat} {σ τ : jT} (h : rAll 5000 P Q σ τ) (hT : rT σ τ) (hn : n < 5000) (hc : c ≤ n) (ec : τ.1 4208 = nI c) : rAll n P Q σ τ := by
  obtain ⟨-, h2, h3, h4, h5, h6, ⟨c', b, hc', hb, e, hk⟩, h8⟩ := h
  have : c' = c := (ja_eq (by omega) (by omega)).1 (e.symm.trans ec)
  exact ⟨fun _ => hT, h2, h3, h4, h5, h6, ⟨c', b, by omega, hb, e, hk⟩, h8⟩
/-- the end of a journey, on both sides -/
theorem jr_end {n P Q N S K k c : Nat} {σ τ σb τb : jT} (hn : n < 1000) (hK : K ≤ 31) (hk : k ≤ K) (h5 : rAll 5000 P Q σb τb) (hN : N < 13) (hS : S ≤ 12) (e1 : σb.1 899 = nI S) (e2 : τb.1 4189 = nI S) (e3 : σb.1 898 = nI N) (hc : c ≤ n) (ec : τb.1 4208 = nI c) (et : τb.1 4169 = 0) (h80 : ∀ z, z < 28 → τb.2 80 z = τb.2 66 z) (h72 : τb.1 4172 = 0)
    (c1 : coreCn σ = coreCn (cNote σb N)) (c2 : coreMn τ = coreMn τb) (c3 : τ.2 80 = τb.2 80) (c4 : τ.1 4172 = τb.1 4172) (c5 : rN P Q σ τ) : rEq n (f_X10_journey_b190 (nI k) (τ.1 4193) (if k = K then 0 else 1) σ) (f_X11_journey_b168 (nI K) (nI k) τ) := by
  have hcl : ∀ s : jT, f_X10_journey_b201 (nI k) (τ.1 4193) (if k = K then 0 else 1) s = some (nI k, cRow2 (gs s 65 0) (if k = K then 0 else 1) (τ.1 4193)) := by
    intro s
    unfold f_X10_journey_b201 f_X9_clear f_X10_journey_b222
    simp only [bnd]
    by_cases q : k = K
    · rw [if_pos q, if_pos rfl, c_tell2]
      simp only [bnd]
    · rw [if_neg q, if_neg (show ¬ (1 : Int32) = 0 by decide), c_tell2]
      simp only [bnd]
  have hml : ∀ t : jT, t.1 4193 = τ.1 4193 → f_X11_journey_b180 (nI K) (nI k) t = some (nI k, mRow2 t (if k = K then 0 else 1) (τ.1 4193)) := by
    intro t ht
    unfold f_X11_journey_b180 f_X11_journey_b196
    have e : gs t 4171 0 = mRow0 t := rfl
    have e' : ∀ a, (mRow1 t a).1 4193 = τ.1 4193 := fun a => ht
    by_cases q : k = K
    · rw [if_pos q, if_pos ((ja_le (by omega) (by omega)).2 (by omega)), e, m_tell1]
      simp only [bnd]
      rw [e', m_tell2]
      simp only [bnd]
    · rw [if_neg q, if_neg (fun c => by have := (ja_le (by omega) (by omega)).1 c; omega), e, m_tell1]
      simp only [bnd]
      rw [e', m_tell2]
      simp only [bnd]
  have fin : ∀ s t : jT, rAll 5000 P Q s t → t.1 4169 = 0 → t.1 4208 = nI c → t.1 4172 = 0 → rEq n (some (nI k, cRow2 (gs s 65 0) (if k = K then 0 else 1) (τ.1 4193))) (some (nI k, mRow2 t (if k = K then 0 else 1) (τ.1 4193))) := by
    intro s t hr q1 q2 q3
    refine ⟨nI k, _, _, P, Q, rfl, rfl, q3, ?_⟩
    have hp : rP P (gs s 65 0) t := by
      obtain ⟨-, -, -, -, -, -, -, -, hp⟩ := hr
      exact hp
    have r5 : rAll 5000 P Q (gs s 65 0) t := rAll_5 hr (by omega) rfl rfl hp
    have r6 : rAll (n + 1) P Q (gs s 65 0) t := rAll_back r5 (rT0 rfl q1) (by omega) (show c ≤ n + 1 by omega) q2
    exact rAll_row r6 rfl rfl (rW2 _ _ _ _)
  have c1' := c1
  have c2' := c2
  simp only [coreCn, Prod.mk.injEq] at c1'
  simp only [coreMn, Prod.mk.injEq] at c2'
  obtain ⟨-, -, -, -, ⟨u1, u2, -⟩, -⟩ := c1'
  obtain ⟨⟨v1, -⟩, -, -, -, ⟨v2, v3⟩, ⟨v4, -⟩, -⟩ := c2'
  have u1' : σ.1 898 = nI N := u1.trans e3
  have u2' : σ.1 899 = nI S := u2.trans e1
  by_cases q : k = 0
  · have hk0 : nI k ≤ 0 := by rw [q]; decide
    unfold f_X10_journey_b190 f_X11_journey_b168
    rw [if_pos hk0, if_pos hk0, hcl, hml τ rfl]
    exact fin σ τ (rBut_all (rBut_core (rBut_of (rAll_note h5 hN e3 e1 hS)) c1 c2) c5) (v1.trans et) (v4.trans ec) (c4.trans h72)
  · unfold f_X10_journey_b190 f_X11_journey_b168
    have hk0 : ¬ nI k ≤ 0 := fun z => by have := (ja_le (b := 0) (by omega) (by omega)).1 z; omega
    obtain ⟨τ2, r1, m1, m2, m3, m4, m5⟩ := m_rem_80 hS (v2.trans e2)
    rw [if_neg hk0, if_neg hk0, c_push hN hS u1' u2', r1]
    simp only [bnd]
    rw [hcl, hml τ2 (m2 4193 (by decide))]
    have hm : mRemd 80 S τb (fun i => if i = 4189 then nI (min (S + 1) 12) else τb.1 i, fun o => if o = 79 then τ2.2 79 else τb.2 o) := by
      refine ⟨rfl, fun i hi => if_neg hi, fun o ho => if_neg ho, fun z hz => ?_, fun i hi z hz => ?_⟩
      · exact (m4 z hz).trans (congrFun c3 z)
      · exact (m5 i hi z hz).trans (congrFun v3 _)
    have hm2 : coreMn τ2 = coreMn ((fun i => if i = 4189 then nI (min (S + 1) 12) else τb.1 i, fun o => if o = 79 then τ2.2 79 else τb.2 o) : jT) := by
      have key : coreMn τ2 = ((τ.1 4169, τ.2 71), (τ.1 4161, τ.1 4164, τ.2 67, τ.2 68), (τ.1 4165, τ.2 69, τ.2 70), (τ.2 77, τ.1 4184), (nI (min (S + 1) 12), τ2.2 79), (τ.1 4208, τ.2 92, τ.2 93, τ.2 94), (τ.1 4171, τ.2 72), (τ.1 4203, τ.2 88)) := by
        unfold coreMn
        rw [m1, m2 4169 (by decide), m2 4161 (by decide), m2 4164 (by decide), m2 4165 (by decide), m2 4184 (by decide), m2 4208 (by decide), m2 4171 (by decide), m2 4203 (by decide), m3 71 (by decide), m3 67 (by decide), m3 68 (by decide), m3 69 (by decide), m3 70 (by decide), m3 77 (by decide), m3 92 (by decide), m3 93 (by decide), m3 94 (by decide), m3 72 (by decide), m3 88 (by decide)]
      rw [key]
      simp only [coreMn, Prod.mk.injEq] at c2 ⊢
      obtain ⟨⟨b1, b2⟩, ⟨b3, b4, b5, b6⟩, ⟨b7, b8, b9⟩, ⟨b11, b12⟩, ⟨b13, b14⟩, ⟨b15, b16, b17, b18⟩, ⟨b19, b20⟩, ⟨b21, b22⟩⟩ := c2
      exact ⟨⟨b1, b2⟩, ⟨b3, b4, b5, b6⟩, ⟨b7, b8, b9⟩, ⟨b11, b12⟩, ⟨rfl, rfl⟩, ⟨b15, b16, b17, b18⟩, ⟨b19, b20⟩, ⟨b21, b22⟩⟩
    have hrN : rN P Q σ τ2 := by
      unfold rN at c5 ⊢
      rw [m3 70 (by decide), m3 66 (by decide)]; exact c5
    have hr := act_push h5 hN hS e3 e1 h80 hm c1 hm2 hrN
    exact fin (cPush σ N S) τ2 hr ((m2 4169 (by decide)).trans (v1.trans et)) ((m2 4208 (by decide)).trans (v4.trans ec)) ((m2 4172 (by decide)).trans (c4.trans h72))
theorem rP_q {P : Nat} {σ τ σ' τ' : jT} (h : rP P σ τ) (h1 : σ'.1 12 = σ.1 12) (h2 : σ'.2 62 = σ.2 62) (h3 : τ'.1 4203 = τ.1 4203) (h4 : τ'.2 88 = τ.2 88) : rP P σ' τ' := rP_c h h1 h2 h3 h4
theorem eq_journey {n P Q : Nat} {σ τ : jT} (hn : n < 1000) (h : rAll n P Q σ τ) : rEq n (f_X10_journey σ) (f_X11_journey τ) := by
  obtain ⟨hT, -, -, -, -, ⟨S, N, hS, hN, e1, e2, e3, -⟩, ⟨c, b0, hc, -, ec, -⟩, -, hPr⟩ := id h
  obtain ⟨L, d, hX, t2⟩ := rX_of (hT (by omega))
  obtain ⟨hL80, x1, x2⟩ := id hX
  have hb0 : bX L 60 d (gs σ 66 60) := ⟨hL80, by omega, x1, rfl, fun j hj => ⟨(x2 j hj).1, (x2 j hj).2.1⟩⟩
  -- the run, from where both have read the acts
  have run : ∀ (K : Nat) (j : Int32) (τ' : jT), K ≤ 31 → kH (gs (gs (gs (gs (gs (gs τ 4172 0) 4174 (nI L)) 4175 60) 4176 0) 4177 (-1)) 4169 0) τ' → τ'.1 4177 = -1 → jkI L d K τ' → (if 0 = K then L else aS L d 0) = 0 → (∀ p, p < K → (p + 1 < K ∧ sIn L 60 d (aEnd L d (aS L d p)) 59 59) ∨ (p + 1 = K ∧ aEnd L d (aS L d p) = L)) →
      rEq n ((f_X2_note_12 (gs (gs σ 66 60) 67 j)).bind fun q3 => f_X10_journey_b54 1000 0 0 0 0 (gs (gs q3.2 66 60) 67 0)) (f_X11_journey_b89 (nI K) τ') := by
    intro K j τ' hK hf hw hj h00 he
    have h5 : rAll 5000 P Q (gs (gs σ 66 60) 67 j) (gs (lyT τ' 66 80 0 28) 4193 0) := by
      refine rAll_5 h (by omega) rfl ?_ (rP_c hPr rfl rfl (hf.1 4203 (by decide) (by decide)) ?_)
      · unfold coreMt
        have g1 : ∀ z, z ≠ 4176 → z ≠ 4177 → z ≠ 4193 → (gs (lyT τ' 66 80 0 28) 4193 0).1 z = (gs (gs (gs (gs (gs (gs τ 4172 0) 4174 (nI L)) 4175 60) 4176 0) 4177 (-1)) 4169 0).1 z := fun z z1 z2 z3 => (show (gs (lyT τ' 66 80 0 28) 4193 0).1 z = τ'.1 z from if_neg z3).trans (hf.1 z z1 z2)
        have g2 : ∀ o, o ≠ 80 → o ≠ 81 → (gs (lyT τ' 66 80 0 28) 4193 0).2 o = τ.2 o := fun o o1 o2 => (lyT_ne τ' o1).trans (hf.2 o o2)
        rw [g1 4161 (by decide) (by decide) (by decide), g1 4164 (by decide) (by decide) (by decide), g1 4165 (by decide) (by decide) (by decide), g1 4184 (by decide) (by decide) (by decide), g1 4189 (by decide) (by decide) (by decide), g1 4208 (by decide) (by decide) (by decide), g1 4171 (by decide) (by decide) (by decide), g2 67 (by decide) (by decide), g2 68 (by decide) (by decide), g2 69 (by decide) (by decide), g2 70 (by decide) (by decide), g2 66 (by decide) (by decide), g2 77 (by decide) (by decide), g2 79 (by decide) (by decide), g2 92 (by decide) (by decide), g2 93 (by decide) (by decide), g2 94 (by decide) (by decide), g2 72 (by decide) (by decide)]
        rfl
      · exact (show (lyT τ' 66 80 0 28).2 88 = τ'.2 88 from lyT_ne τ' (by decide)).trans (hf.2 88 (by decide))
    rw [c_note hN (show (gs (gs σ 66 60) 67 j).1 898 = nI N from e3)]
    simp only [bnd]
    have h5n := rAll_note h5 hN e3 e1 hS
    have hs : rAll 5000 P Q (gs (gs (cNote (gs (gs σ 66 60) 67 j) N) 66 60) 67 0) (gs (lyT τ' 66 80 0 28) 4193 0) := rAll_core h5n rfl rfl
    have hbs : bX L 60 d (gs (gs (cNote (gs (gs σ 66 60) 67 j) N) 66 60) 67 0) := by
      refine bX_co hb0 rfl rfl ?_
      show (cNote (gs (gs σ 66 60) 67 j) N).2 2 = σ.2 2
      exact (if_neg (show ¬ 2 = 17 + 2 * N by omega) : (if 2 = 17 + 2 * N then va_cpy ((gs (gs σ 66 60) 67 j).2 13) ((gs (gs σ 66 60) 67 j).2 (17 + 2 * N)) 0 0 28 else σ.2 2) = σ.2 2)
    have hjs : jkI L d K (gs (lyT τ' 66 80 0 28) 4193 0) := by
      unfold jkI
      rw [show (gs (lyT τ' 66 80 0 28) 4193 0).2 81 = τ'.2 81 from (lyT_ne (S := 66) (D := 80) (a := 0) (k := 28) (o := 81) τ' (by decide))]
      exact hj
    obtain ⟨k, σ', τ2, w1, w2, w3, w4, w5, w6, w7, w8⟩ := jr_run hL80 hK he K 0 1000 1000 _ _ (by omega) (by omega) (by omega) hs hbs (by rw [h00]; rfl) hjs
    have em : f_X11_journey_b89 (nI K) τ' = f_X11_journey_b122 1000 (nI K) 0 (gs (lyT τ' 66 80 0 28) 4193 0) := by
      unfold f_X11_journey_b89
      rw [m_fine hw]
      simp only [bnd]
      rw [if_pos (show ¬ (1 : Int32) = 0 by decide), show f_X11_lay_66_80 0 τ' = some (0, lyT τ' 66 80 0 28) from m_lay_66_80 (a := 0) τ' (by omega)]
      simp only [bnd]
    have w2' : f_X10_journey_b54 1000 0 0 0 0 (gs (gs (cNote (gs (gs σ 66 60) 67 j) N) 66 60) 67 0) = f_X10_journey_b190 (nI k) (τ2.1 4193) (if k = K then 0 else 1) σ' := w2
    have w3' : f_X11_journey_b122 1000 (nI K) 0 (gs (lyT τ' 66 80 0 28) 4193 0) = f_X11_journey_b168 (nI K) (nI k) τ2 := w3
    rw [em, w2', w3']
    exact jr_end (σb := gs (gs σ 66 60) 67 j) (τb := gs (lyT τ' 66 80 0 28) 4193 0) hn hK w1 h5 hN hS e1 ((hf.1 4189 (by decide) (by decide)).trans e2) e3 hc ((hf.1 4208 (by decide) (by decide)).trans ec) (hf.1 4169 (by decide) (by decide)) (fun z hz => (lyT_in τ' (by omega) (by omega)).trans (by rw [Nat.sub_zero]; exact (congrFun (lyT_ne (S := 66) (D := 80) (a := 0) (k := 28) (o := 66) τ' (by decide)) z).symm)) (hf.1 4172 (by decide) (by decide)) w4 w5 w6 w7 w8
  unfold f_X10_journey f_X1_inJourney_1 f_X11_journey f_X11_begin_71
  unfold f_X9_open f_X9_length
  simp only [bnd]
  unfold f_X11_journey_b38
  have y1 : (gs (gs σ 66 60) 67 0).1 65 = nI L := x1
  have y2 : (gs (gs (gs (gs (gs τ 4172 0) 4174 (τ.1 4169)) 4175 60) 4176 0) 4177 (-1)).1 4174 = nI L := t2
  rw [y1, y2, t2]
  by_cases z : L = 0
  · rw [z]
    rw [if_neg (show ¬ ¬ nI 0 = 0 from fun q => q rfl), if_pos (show nI 0 ≤ 0 by decide)]
    simp only [bnd]
    rw [iT]
    have hr := run 0 0 (gs (gs (gs (gs (gs (gs τ 4172 0) 4174 (nI L)) 4175 60) 4176 0) 4177 (-1)) 4169 0) (by omega) ⟨fun _ _ _ => rfl, fun _ _ => rfl⟩ rfl (fun p hp => absurd hp (Nat.not_lt_zero _)) (by rw [if_pos rfl, z]) (fun p hp => absurd hp (Nat.not_lt_zero _))
    rw [z] at hr
    have em : f_X11_journey_b39 1000 0 0 (gs (gs (gs (gs (gs (gs τ 4172 0) 4174 (nI 0)) 4175 60) 4176 0) 4177 (-1)) 4169 0) = f_X11_journey_b89 (nI 0) (gs (gs (gs (gs (gs (gs τ 4172 0) 4174 (nI 0)) 4175 60) 4176 0) 4177 (-1)) 4169 0) := by
      rw [show (1000 : Nat) = 999 + 1 from rfl, f_X11_journey_b39, if_pos rfl]
      unfold f_X11_journey_b70
      rw [if_pos (show (gs (gs (gs (gs (gs (gs τ 4172 0) 4174 (nI 0)) 4175 60) 4176 0) 4177 (-1)) 4169 0).1 4174 ≤ (gs (gs (gs (gs (gs (gs τ 4172 0) 4174 (nI 0)) 4175 60) 4176 0) 4177 (-1)) 4169 0).1 4176 from (by decide : nI 0 ≤ (0 : Int32)))]
      rfl
    rw [em]
    exact hr
  · rw [if_pos (show ¬ nI L = 0 from nIne (b := 0) (by omega) (by omega) z), if_neg (show ¬ nI L ≤ 0 from fun q => by have := (ja_le (b := 0) (by omega) (by omega)).1 q; omega)]
    have hm0 : mX L 60 (aS L d 0) d (gs (gs (gs (gs (gs (gs τ 4172 0) 4174 (nI L)) 4175 60) 4176 0) 4177 (-1)) 4169 0) := ⟨hL80, by omega, Nat.zero_le _, rfl, rfl, rfl, rfl, fun j hj => ⟨(x2 j hj).1, (x2 j hj).2.2⟩⟩
    obtain ⟨v, j, k1, k2⟩ := jp_parse hb0 31 0 1000 1000 _ (by omega) (by omega) (by omega) (Nat.zero_le _) (Nat.zero_le _) (Nat.zero_le _) hm0 (fun p hp => absurd hp (Nat.not_lt_zero _)) (fun p hp => absurd hp (Nat.not_lt_zero _))
    have k1' : f_X1_inJourney_1_b17 1000 0 (gs (gs σ 66 60) 67 0) = some (v, gs (gs σ 66 60) 67 j) := k1
    rw [k1']
    simp only [bnd]
    rcases k2 with ⟨e, τ', b1, rfl, b3, b4⟩ | ⟨rfl, K, τ', b1, b2, b3, b4, b5, b6, b7⟩
    · have b3' : f_X11_journey_b39 1000 0 1 (gs (gs (gs (gs (gs (gs τ 4172 0) 4174 (nI L)) 4175 60) 4176 0) 4177 (-1)) 4169 0) = some (-1 - nI e, τ') := b3
      rw [if_neg (ja_neg1 (by omega)), b3']
      unfold f_X9_clear
      simp only [bnd]
      refine ⟨_, _, _, P, Q, rfl, rfl, b4.1 4172 (by decide) (by decide), rAll_text (rAll_step h) rfl ?_ (rT0 rfl (b4.1 4169 (by decide) (by decide))) (rP_c hPr rfl rfl (b4.1 4203 (by decide) (by decide)) (b4.2 88 (by decide)))⟩
      unfold coreMt
      rw [b4.1 4161 (by decide) (by decide), b4.1 4164 (by decide) (by decide), b4.1 4165 (by decide) (by decide), b4.1 4184 (by decide) (by decide), b4.1 4189 (by decide) (by decide), b4.1 4208 (by decide) (by decide), b4.1 4171 (by decide) (by decide), b4.2 67 (by decide), b4.2 68 (by decide), b4.2 69 (by decide), b4.2 70 (by decide), b4.2 66 (by decide), b4.2 77 (by decide), b4.2 79 (by decide), b4.2 92 (by decide), b4.2 93 (by decide), b4.2 94 (by decide), b4.2 72 (by decide)]
      rfl
    · have b6' : f_X11_journey_b39 1000 0 1 (gs (gs (gs (gs (gs (gs τ 4172 0) 4174 (nI L)) 4175 60) 4176 0) 4177 (-1)) 4169 0) = f_X11_journey_b89 (nI (K + 1)) τ' := b6
      rw [if_pos rfl, b6']
      refine run (K + 1) j τ' (by omega) b7 b5 b4 (if_neg (by omega)) (fun p hp => ?_)
      by_cases q : p = K
      · right; rw [q]; exact ⟨rfl, b2⟩
      · left; exact ⟨by omega, b3 p (by omega)⟩
