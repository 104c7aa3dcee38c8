/-! ===== a line of riders is read, on both sides ===== -/
def rOk (L M : Nat) (d : Nat → Nat) (P i : Nat) : Prop := (¬ nD L M d i = 0) ∧ (¬ nV L M d i = 0) ∧ sIn L M d (i + nD L M d i) 58 58 ∧ ∀ k, k < P → sIn L M d (i + nD L M d i + 1 + k) 48 50
def rEnd (L M : Nat) (d : Nat → Nat) (P i : Nat) : Nat := i + nD L M d i + 1 + P
def kF (n : Nat) (τ τ' : jT) : Prop := (∀ z, z ≠ 4176 → z ≠ 4177 → τ'.1 z = τ.1 z) ∧ (∀ o, o ≠ 76 → τ'.2 o = τ.2 o) ∧ ∀ j, j < 11 * n ∨ 11 * n + 11 ≤ j → τ'.2 76 j = τ.2 76 j
theorem kF_refl (n : Nat) (τ : jT) : kF n τ τ := ⟨fun _ _ _ => rfl, fun _ _ => rfl, fun _ _ => rfl⟩
theorem kF_trans {n : Nat} {a b c : jT} (h1 : kF n a b) (h2 : kF n b c) : kF n a c := ⟨fun z a1 a2 => (h2.1 z a1 a2).trans (h1.1 z a1 a2), fun o a1 => (h2.2.1 o a1).trans (h1.2.1 o a1), fun j h => (h2.2.2 j h).trans (h1.2.2 j h)⟩
theorem kF_g {n : Nat} {τ : jT} {z : Nat} {v : Int32} (hz : z = 4176 ∨ z = 4177) : kF n τ (gs τ z v) := ⟨fun y a1 a2 => if_neg (by omega), fun _ _ => rfl, fun _ _ => rfl⟩
theorem kF_76 {n : Nat} {τ : jT} {k : Nat} {v : Int32} (h1 : 11 * n ≤ k) (h2 : k < 11 * n + 11) : kF n τ (gA τ 76 k v) := ⟨fun _ _ _ => rfl, fun o ho => funext fun j => by rw [ja_gA, if_neg (fun q => ho q.1)], fun j hj => by rw [ja_gA, if_neg (fun q => by omega)]⟩
theorem m_digit0 {x y : Int32} {τ : jT} (h : ¬ τ.1 4177 = -1) : f_X11_digit_T x y τ = some (0, τ) := by
  unfold f_X11_digit_T
  rw [m_fine0 h]
  simp only [bnd]
  rw [iNT]
theorem m_need0 {x : Int32} {τ : jT} (h : ¬ τ.1 4177 = -1) : f_X11_need_T x τ = some (0, τ) := by
  unfold f_X11_need_T
  rw [m_passes0 h]
  simp only [bnd]
  rw [iNT, m_fault0 h]
  simp only [bnd]
theorem ix11 {n k : Nat} (hn : n < 6) (hk : k < 10) : nI (11 * n) + 1 + nI k = nI (11 * n + 1 + k) := by
  rw [nS]; exact ja_add _ _
/-- behind a fault -/
theorem vw_off {P n : Nat} (hP : P ≤ 10) (hn : n < 6) : ∀ (m k fu : Nat) (τ : jT), k + m = P → m < fu → τ.1 4161 = nI P → ¬ τ.1 4177 = -1 → ∃ τ', f_X11_readRider_T_b45 fu (nI (11 * n)) (nI k) τ = some (0, τ') ∧ kF n τ τ' ∧ τ'.1 4177 = τ.1 4177 := by
  intro m
  induction m with
  | zero =>
    intro k fu τ hk hf p2 hw
    obtain ⟨fu, rfl⟩ : ∃ f', fu = f' + 1 := ⟨fu - 1, by omega⟩
    rw [f_X11_readRider_T_b45, p2, if_pos ((ja_le (by omega) (by omega)).2 (by omega))]
    exact ⟨τ, rfl, kF_refl n τ, rfl⟩
  | succ m ih =>
    intro k fu τ hk hf p2 hw
    obtain ⟨fu, rfl⟩ : ∃ f', fu = f' + 1 := ⟨fu - 1, by omega⟩
    rw [f_X11_readRider_T_b45, p2, if_neg (fun c => by have := (ja_le (by omega) (by omega)).1 c; omega), m_digit0 hw]
    simp only [bnd]
    rw [ix11 hn (by omega), if_pos (ja_in (n := 66) (by omega) (by omega)), nI_clamp (by omega), nS]
    obtain ⟨τ', e1, e2, e3⟩ := ih (k + 1) fu (gA τ 76 (11 * n + 1 + k) 0) (by omega) (by omega) p2 hw
    exact ⟨τ', e1, kF_trans (kF_76 (by omega) (by omega)) e2, e3⟩
theorem vw_both {L M P n c : Nat} {d : Nat → Nat} {σ : jT} (h : bX L M d σ) (hM : M ≤ 76) (hP : P ≤ 10) (hn : n < 6) (hc : c ≤ M) : ∀ (m k fu fu' : Nat) (τ : jT), k + m = P → m < fu → m < fu' → τ.1 4161 = nI P → (∀ k', k' < k → sIn L M d (c + k') 48 50) → mX L M (c + k) d τ → (∀ k', k' < k → τ.2 76 (11 * n + 1 + k') = nI (d (c + k') - 48)) →
    ∃ v j τ', f_X1_inRiderLine_1_b38 fu (nI P) (nI k) (gs σ 67 (nI (c + k))) = some (v, gs σ 67 (nI j)) ∧ f_X11_readRider_T_b45 fu' (nI (11 * n)) (nI k) τ = some (0, τ') ∧ kF n τ τ' ∧
      (((∀ k', k' < P → sIn L M d (c + k') 48 50) ∧ v = -1 ∧ j = c + P ∧ mX L M (c + P) d τ' ∧ (∀ k', k' < P → τ'.2 76 (11 * n + 1 + k') = nI (d (c + k') - 48)) ∧ τ'.2 76 (11 * n) = τ.2 76 (11 * n)) ∨ ∃ e, e ≤ 80 ∧ v = nI e ∧ τ'.1 4177 = nI e) := by
  intro m
  induction m with
  | zero =>
    intro k fu fu' τ hk hf hf' p2 hs hm hr
    obtain ⟨fu, rfl⟩ : ∃ f', fu = f' + 1 := ⟨fu - 1, by omega⟩
    obtain ⟨fu', rfl⟩ : ∃ f', fu' = f' + 1 := ⟨fu' - 1, by omega⟩
    obtain rfl : k = P := by omega
    rw [f_X1_inRiderLine_1_b38, if_pos ((ja_le (by omega) (by omega)).2 (Nat.le_refl _)), f_X11_readRider_T_b45, p2, if_pos ((ja_le (by omega) (by omega)).2 (Nat.le_refl _))]
    exact ⟨-1, _, τ, rfl, rfl, kF_refl n τ, Or.inl ⟨hs, rfl, rfl, hm, hr, rfl⟩⟩
  | succ m ih =>
    intro k fu fu' τ hk hf hf' p2 hs hm hr
    obtain ⟨fu, rfl⟩ : ∃ f', fu = f' + 1 := ⟨fu - 1, by omega⟩
    obtain ⟨fu', rfl⟩ : ∃ f', fu' = f' + 1 := ⟨fu' - 1, by omega⟩
    have hck : c + k ≤ M := by
      by_cases z : k = 0
      · omega
      · have := (hs (k - 1) (by omega)).1; omega
    have et := b_takeOf (a := 48) (b := 50) h (show c + k ≤ 80 by omega) (by omega) (by omega)
    have et' : f_X9_takeOf 48 50 (gs σ 67 (nI (c + k))) = _ := et
    have ed := m_digit (a := 0) (b := 2) hm (by omega) (by omega)
    have ed' : f_X11_digit_T 0 2 τ = _ := ed
    rw [f_X1_inRiderLine_1_b38, if_neg (fun c => by have := (ja_le (by omega) (by omega)).1 c; omega), et', f_X11_readRider_T_b45, p2, if_neg (show ¬ nI P ≤ nI k from fun c => by have := (ja_le (by omega) (by omega)).1 c; omega), ed']
    by_cases cs : sIn L M d (c + k) 48 50
    · obtain ⟨a1, a2, a3, a4⟩ := id cs
      rw [if_pos cs, if_pos cs]
      simp only [bnd]
      rw [if_pos (show ¬ (1 : Int32) = 0 by decide), ix11 hn (by omega), if_pos (ja_in (n := 66) (by omega) (by omega)), nI_clamp (by omega), nS, sub48 a3]
      obtain ⟨v, j, τ', e1, e2, e3, e5⟩ := ih (k + 1) fu fu' (gA (gs τ 4176 (nI (c + k + 1))) 76 (11 * n + 1 + k) (nI (d (c + k) - 48))) (by omega) (by omega) (by omega) p2 (fun k' hk' => by
          by_cases z : k' = k
          · rw [z]; exact cs
          · exact hs k' (by omega)) (mX_o (mX_1 hm (by omega)) (fun z _ _ => rfl) (funext fun j => by rw [ja_gA, if_neg (fun q => absurd q.1 (by decide))]; rfl)) (fun k' hk' => by
          rw [ja_gA]
          by_cases z : k' = k
          · rw [if_pos ⟨rfl, by omega⟩, z]
          · rw [if_neg (fun q => by omega)]; exact hr k' (by omega))
      refine ⟨v, j, τ', e1, e2, kF_trans (kF_trans (kF_g (Or.inl rfl)) (kF_76 (by omega) (by omega))) e3, ?_⟩
      rcases e5 with ⟨f1, f2, f3, f4, f5, f6⟩ | e5
      · exact Or.inl ⟨f1, f2, f3, f4, f5, by rw [f6, ja_gA, if_neg (fun q => by omega)]; rfl⟩
      · exact Or.inr e5
    · rw [if_neg cs, if_neg cs]
      simp only [bnd]
      rw [iNT, c_pos (bX_at h (by omega)), ix11 hn (by omega), if_pos (ja_in (n := 66) (by omega) (by omega)), nI_clamp (by omega), nS]
      simp only [bnd]
      obtain ⟨τ', e1, e2, e3⟩ := vw_off hP hn m (k + 1) fu' (gA (gs τ 4177 (nI (c + k))) 76 (11 * n + 1 + k) 0) (by omega) (by omega) p2 (show ¬ nI (c + k) = -1 from ja_neg1 (by omega))
      refine ⟨_, _, τ', rfl, e1, kF_trans (kF_trans (kF_g (Or.inr rfl)) (kF_76 (by omega) (by omega))) e2, Or.inr ⟨c + k, by omega, rfl, e3⟩⟩
theorem rl_both {L P n i : Nat} {d : Nat → Nat} {σ τ : jT} (h : bX L 76 d σ) (hP : P ≤ 10) (hn : n < 6) (p2 : τ.1 4161 = nI P) (hiL : i ≤ L) (hi : i ≤ 76) (hm : mX L 76 i d τ) :
    ∃ v j τ', f_X1_inRiderLine_1 (nI P) (gs σ 67 (nI i)) = some (v, gs σ 67 (nI j)) ∧ f_X11_readRider_T (nI (11 * n)) τ = some (0, τ') ∧ kF n τ τ' ∧
      ((rOk L 76 d P i ∧ v = -1 ∧ j = rEnd L 76 d P i ∧ mX L 76 (rEnd L 76 d P i) d τ' ∧ τ'.2 76 (11 * n) = nI (nV L 76 d i) ∧ ∀ k', k' < P → τ'.2 76 (11 * n + 1 + k') = nI (d (i + nD L 76 d i + 1 + k') - 48)) ∨ ∃ e, e ≤ 80 ∧ v = nI e ∧ τ'.1 4177 = nI e) := by
  obtain ⟨hd2, hdL, hdM⟩ := nD_le (d := d) hiL hi
  obtain ⟨-, -, -, -, -, e3, ew, -⟩ := id hm
  unfold f_X1_inRiderLine_1 f_X11_readRider_T f_X11_readRider_T_b37 f_X1_inRiderLine_1_b31
  rw [c_num2 h (by omega), m_num2 hm (by omega)]
  simp only [bnd]
  -- the model goes on behind a fault
  have off : ∀ (e : Nat) (τ1 : jT), e ≤ 80 → kF n τ τ1 → τ1.1 4177 = nI e → ∃ τ', ((f_X11_need_T 58 τ1).bind fun q1 => f_X11_readRider_T_b45 1000 (nI (11 * n)) 0 q1.2) = some (0, τ') ∧ kF n τ τ' ∧ τ'.1 4177 = nI e := by
    intro e τ1 he hk hw
    have hnw : ¬ τ1.1 4177 = -1 := by rw [hw]; exact ja_neg1 (by omega)
    rw [m_need0 hnw]
    simp only [bnd]
    obtain ⟨τ', a1, a2, a3⟩ := vw_off hP hn P 0 1000 τ1 (by omega) (by omega) (by rw [hk.1 4161 (by decide) (by decide)]; exact p2) hnw
    exact ⟨τ', a1, kF_trans hk a2, a3.trans hw⟩
  by_cases c0 : nD L 76 d i = 0
  · rw [if_pos c0, if_pos c0, if_pos (show ¬ (-1 : Int32) = 0 by decide), if_pos rfl, c0, c_pos (bX_at h (by omega))]
    simp only [bnd]
    rw [if_pos (ja_in (n := 66) (by omega) (by omega)), nI_clamp (by omega), m_fine0 (show ¬ (gA (gs τ 4177 (nI i)) 76 (11 * n) 0).1 4177 = -1 from ja_neg1 (by omega))]
    simp only [bnd]
    rw [iT]
    obtain ⟨τ', a1, a2, a3⟩ := off i (gA (gs τ 4177 (nI i)) 76 (11 * n) 0) (by omega) (kF_trans (kF_g (Or.inr rfl)) (kF_76 (by omega) (by omega))) rfl
    rw [a1]
    exact ⟨_, _, τ', rfl, rfl, a2, Or.inr ⟨i, by omega, rfl, a3⟩⟩
  · have hv := nV_le c0
    rw [if_neg c0, if_neg c0]
    simp only [bnd]
    rw [if_pos (ja_in (n := 66) (by omega) (by omega)), nI_clamp (by omega), m_fine (show (gA (gs τ 4176 (nI (i + nD L 76 d i))) 76 (11 * n) (nI (nV L 76 d i))).1 4177 = -1 from ew)]
    simp only [bnd]
    rw [if_neg (show ¬ (1 : Int32) = 0 by decide), show (gA (gs τ 4176 (nI (i + nD L 76 d i))) 76 (11 * n) (nI (nV L 76 d i))).2 76 (11 * n) = nI (nV L 76 d i) from by rw [ja_gA, if_pos ⟨rfl, rfl⟩]]
    have k1 : kF n τ (gA (gs τ 4176 (nI (i + nD L 76 d i))) 76 (11 * n) (nI (nV L 76 d i))) := kF_trans (kF_g (Or.inl rfl)) (kF_76 (by omega) (by omega))
    by_cases cv : nV L 76 d i = 0
    · rw [cv, if_neg (show ¬ ¬ nI 0 = 0 from fun q => q rfl), if_neg (show ¬ ¬ nI 0 = 0 from fun q => q rfl), c_pos (bX_at h (by omega))]
      simp only [bnd]
      have ep : nI (i + nD L 76 d i) - 1 = nI (i + nD L 76 d i - 1) := by
        obtain ⟨w, hw⟩ : ∃ w, i + nD L 76 d i = w + 1 := ⟨i + nD L 76 d i - 1, by omega⟩
        rw [hw, nI_pred]; rfl
      rw [cv] at k1
      rw [show (gA (gs τ 4176 (nI (i + nD L 76 d i))) 76 (11 * n) (nI 0)).1 4176 = nI (i + nD L 76 d i) from rfl, ep, m_fault (show (gA (gs τ 4176 (nI (i + nD L 76 d i))) 76 (11 * n) (nI 0)).1 4177 = -1 from ew)]
      simp only [bnd]
      obtain ⟨τ', a1, a2, a3⟩ := off (i + nD L 76 d i - 1) (gs (gA (gs τ 4176 (nI (i + nD L 76 d i))) 76 (11 * n) (nI 0)) 4177 (nI (i + nD L 76 d i - 1))) (by omega) (kF_trans k1 (kF_g (Or.inr rfl))) rfl
      rw [a1]
      exact ⟨_, _, τ', rfl, rfl, a2, Or.inr ⟨_, by omega, rfl, a3⟩⟩
    · rw [if_pos (nI_ne0 (by omega) (by omega)), if_pos (nI_ne0 (by omega) (by omega)), if_neg (ja_neg1 (by omega))]
      have et := b_take (a := 58) h (show i + nD L 76 d i ≤ 80 by omega) (by omega)
      have et' : f_X9_take 58 (gs σ 67 (nI (i + nD L 76 d i))) = _ := et
      have hm1 : mX L 76 (i + nD L 76 d i) d (gA (gs τ 4176 (nI (i + nD L 76 d i))) 76 (11 * n) (nI (nV L 76 d i))) := mX_o (mX_1 hm (by omega)) (fun z _ _ => rfl) (funext fun j => by rw [ja_gA, if_neg (fun q => absurd q.1 (by decide))])
      have ep := m_passes (a := 58) hm1 (by omega)
      have ep' : f_X11_passes_T 58 (gA (gs τ 4176 (nI (i + nD L 76 d i))) 76 (11 * n) (nI (nV L 76 d i))) = _ := ep
      rw [et']
      by_cases cc : sIn L 76 d (i + nD L 76 d i) 58 58
      · have b1 := cc.1
        have b2 := cc.2.1
        unfold f_X11_need_T
        rw [ep', if_pos cc, if_pos cc]
        simp only [bnd]
        rw [if_pos (show ¬ (1 : Int32) = 0 by decide), if_pos (show ¬ (1 : Int32) = 0 by decide)]
        simp only [bnd]
        obtain ⟨v, j, τ', a1, a2, a3, a4⟩ := vw_both (c := i + nD L 76 d i + 1) h (Nat.le_refl _) hP hn (by omega) P 0 1000 1000 (gs (gA (gs τ 4176 (nI (i + nD L 76 d i))) 76 (11 * n) (nI (nV L 76 d i))) 4176 (nI (i + nD L 76 d i + 1))) (by omega) (by omega) (by omega) p2 (fun k' h => absurd h (Nat.not_lt_zero _)) (mX_1 hm1 (by omega)) (fun k' h => absurd h (Nat.not_lt_zero _))
        have a1' : f_X1_inRiderLine_1_b38 1000 (nI P) 0 (gs σ 67 (nI (i + nD L 76 d i + 1))) = _ := a1
        have a2' : f_X11_readRider_T_b45 1000 (nI (11 * n)) 0 (gs (gA (gs τ 4176 (nI (i + nD L 76 d i))) 76 (11 * n) (nI (nV L 76 d i))) 4176 (nI (i + nD L 76 d i + 1))) = _ := a2
        rw [a1', a2']
        refine ⟨v, j, τ', rfl, rfl, kF_trans (kF_trans k1 (kF_g (Or.inl rfl))) a3, ?_⟩
        rcases a4 with ⟨f1, f2, f3, f4, f5, f6⟩ | a4
        · refine Or.inl ⟨⟨c0, cv, cc, f1⟩, f2, f3, f4, ?_, f5⟩
          rw [f6]
          show (gA (gs τ 4176 (nI (i + nD L 76 d i))) 76 (11 * n) (nI (nV L 76 d i))).2 76 (11 * n) = _
          rw [ja_gA, if_pos ⟨rfl, rfl⟩]
        · exact Or.inr a4
      · rw [if_neg cc]
        simp only [bnd]
        rw [iNT, c_pos (bX_at h (by omega))]
        simp only [bnd]
        unfold f_X11_need_T
        rw [ep', if_neg cc]
        simp only [bnd]
        rw [iNT, m_fault (show (gA (gs τ 4176 (nI (i + nD L 76 d i))) 76 (11 * n) (nI (nV L 76 d i))).1 4177 = -1 from ew), show (gA (gs τ 4176 (nI (i + nD L 76 d i))) 76 (11 * n) (nI (nV L 76 d i))).1 4176 = nI (i + nD L 76 d i) from rfl]
        simp only [bnd]
        obtain ⟨τ', a1, a2, a3⟩ := vw_off hP hn P 0 1000 (gs (gA (gs τ 4176 (nI (i + nD L 76 d i))) 76 (11 * n) (nI (nV L 76 d i))) 4177 (nI (i + nD L 76 d i))) (by omega) (by omega) p2 (show ¬ nI (i + nD L 76 d i) = -1 from ja_neg1 (by omega))
        have a1' : f_X11_readRider_T_b45 1000 (nI (11 * n)) 0 (gs (gA (gs τ 4176 (nI (i + nD L 76 d i))) 76 (11 * n) (nI (nV L 76 d i))) 4177 (nI (i + nD L 76 d i))) = _ := a1
        rw [a1']
        exact ⟨_, _, τ', rfl, rfl, kF_trans (kF_trans k1 (kF_g (Or.inr rfl))) a2, Or.inr ⟨_, by omega, rfl, a3⟩⟩
