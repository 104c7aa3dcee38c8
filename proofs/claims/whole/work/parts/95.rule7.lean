/-! ===== rule ===== -/
theorem byte_id (x : Int32) (h1 : -128 ≤ x) (h2 : x ≤ 127) : x.toInt8.toInt32 = x := by
  have key : ∀ i : Nat, i < 256 → (Int32.ofInt ((i : Int) - 128)).toInt8.toInt32 = Int32.ofInt ((i : Int) - 128) := by decide +kernel
  rw [Int32.le_iff_toInt_le] at h1 h2
  have a1 : (-128 : Int32).toInt = -128 := by decide
  have a2 : (127 : Int32).toInt = 127 := by decide
  rw [a1] at h1
  rw [a2] at h2
  have e : x = Int32.ofInt (((x.toInt + 128).toNat : Int) - 128) := by
    rw [show ((x.toInt + 128).toNat : Int) - 128 = x.toInt by omega, Int32.ofInt_toInt]
  have k := key (x.toInt + 128).toNat (by omega)
  rw [← e] at k
  exact k
theorem gA_ne (σ : jT) {o p k : Nat} (v : Int32) (h : o ≠ p) : (gA σ p k v).2 o = σ.2 o := funext fun j => by rw [ja_gA, if_neg (fun q => h q.1)]
theorem gs_ne (σ : jT) {i j : Nat} (v : Int32) (h : j ≠ i) : (gs σ i v).1 j = σ.1 j := if_neg h
/-- the rules of both sides tell the same, if what the class reckons is what the model reads -/
theorem rU0_mk {len L : Nat} {cd rl : Nat → Int32} {d : Nat → Nat} {ev : (Nat → Int32) → Int32} (hl : len ≤ 40) (hL : L ≤ 40) (h : (len = 0 ∧ L = 0) ∨ (1 ≤ L ∧ (∀ j, j < L → d j < 256 ∧ (rl j) &&& 255 = nI (d j) ∧ ((d j < 128 ∧ rl j = nI (d j)) ∨ (128 ≤ d j ∧ rl j < 0))) ∧ rYs L d 3 60 0 0 L ev ∧ ∀ e, rnA cd e 0 len [] = [ev e])) : rU0 cd (nI len) rl (nI L) := by
  intro σ τ a b k p s m n h8 h452 h77 h84 hk h2 h3 h4 h5 h6
  have hk0 : ¬ k = 0 := by rcases hk with rfl | rfl | rfl <;> decide
  have fin : ∀ (v : Int32) (A : Nat → Int32) (τ' : jT), f_X7_tells a b σ = some (wayR k v, tQ (gA (gA σ 11 0 a) 11 1 b) A) → f_X11_wayBy_b25 a b p s m n k (if k = 2 then a else 0) (k - a - b) τ = some (wayR k v, τ') → coreM τ' = coreM τ → (∀ o, o ≠ 78 → τ'.2 o = τ.2 o) → (∀ i, i < 4174 ∨ (4177 < i ∧ i ≠ 4185) → τ'.1 i = τ.1 i) →
      ∃ v σ' τ', f_X7_tells a b σ = some (v, σ') ∧ f_X11_wayBy_b25 a b p s m n k (if k = 2 then a else 0) (k - a - b) τ = some (v, τ') ∧ coreC σ' = coreC σ ∧ coreM τ' = coreM τ ∧ σ'.1 = σ.1 ∧ (∀ o, o ≠ 10 ∧ o ≠ 11 → σ'.2 o = σ.2 o) ∧ (∀ o, o ≠ 78 → τ'.2 o = τ.2 o) ∧ (∀ i, i < 4174 ∨ (4177 < i ∧ i ≠ 4185) → τ'.1 i = τ.1 i) ∧ ¬ v < 0 ∧ v < k ∧ ∀ j, 2 ≤ j → σ'.2 11 j = σ.2 11 j := by
    intro v A τ' a1 a2 a3 a4 a5
    obtain ⟨w1, w2⟩ := wayR_in (v := v) hk
    refine ⟨_, _, τ', a1, a2, rfl, a3, rfl, fun o ho => ?_, a4, a5, w1, w2, fun j hj => ?_⟩
    · show (if o = 10 then A else (gA (gA σ 11 0 a) 11 1 b).2 o) = σ.2 o
      rw [if_neg ho.1, gA_ne _ _ ho.2, gA_ne _ _ ho.2]
    · show (gA (gA σ 11 0 a) 11 1 b).2 11 j = σ.2 11 j
      rw [ja_gA, if_neg (fun q => by omega), ja_gA, if_neg (fun q => by omega)]
  rcases h with ⟨r1, r2⟩ | ⟨r1, r2, r3, r4⟩
  · obtain ⟨A, hA⟩ := c_tells (e := fun z => if z = 0 then a else if z = 1 then b else σ.2 11 z) (v := (k - a - b) + (if k = 2 then a else 0)) hl h452 hk h2 rfl rfl (fun z z1 z2 => ((if_neg (by omega)).trans (if_neg (by omega))).symm) (Or.inl ⟨r1, rfl⟩)
    refine fin _ A τ hA ?_ rfl (fun _ _ => rfl) (fun _ _ => rfl)
    unfold f_X11_wayBy_b25
    rw [h84, r2, if_pos (by decide), m_120 hk0]
  · obtain ⟨A, hA⟩ := c_tells (e := fun z => if z = 0 then a else if z = 1 then b else σ.2 11 z) (v := ev (fun z => if z = 0 then a else if z = 1 then b else σ.2 11 z)) hl h452 hk h2 rfl rfl (fun z z1 z2 => ((if_neg (by omega)).trans (if_neg (by omega))).symm) (Or.inr (by rw [h8]; exact r4 _))
    have hn : nT L d 0 (fun z => if z = 0 then a else if z = 1 then b else σ.2 11 z) (gs (gs (gs (gs (gs (gA (gA (gA (gA (gA (gA (gA τ 78 0 a) 78 1 b) 78 2 k) 78 3 p) 78 4 s) 78 5 m) 78 6 n) 4174 (nI L)) 4175 40) 4176 0) 4177 (-1)) 4185 1) := by
      refine ⟨⟨hL, by omega, rfl, rfl, rfl, rfl, fun j hj => ?_⟩, rfl, fun z hz => ?_⟩
      · have e : (gs (gs (gs (gs (gs (gA (gA (gA (gA (gA (gA (gA τ 78 0 a) 78 1 b) 78 2 k) 78 3 p) 78 4 s) 78 5 m) 78 6 n) 4174 (nI L)) 4175 40) 4176 0) 4177 (-1)) 4185 1).2 77 j = rl j := congrFun h77 j
        rw [e]; exact r2 j hj
      · rcases (show z = 0 ∨ z = 1 ∨ z = 2 ∨ z = 3 ∨ z = 4 ∨ z = 5 ∨ z = 6 by omega) with rfl | rfl | rfl | rfl | rfl | rfl | rfl
        · rfl
        · rfl
        · exact h2.symm
        · exact h3.symm
        · exact h4.symm
        · exact h5.symm
        · exact h6.symm
    have hr : f_rec3 100 3 [0] (gs (gs (gs (gs (gs (gA (gA (gA (gA (gA (gA (gA τ 78 0 a) 78 1 b) 78 2 k) 78 3 p) 78 4 s) 78 5 m) 78 6 n) 4174 (nI L)) 4175 40) 4176 0) 4177 (-1)) 4185 1) = _ := r3 _ 100 _ (by omega) hn
    refine fin _ A (gs (gs (gs (gs (gs (gs (gs (gA (gA (gA (gA (gA (gA (gA τ 78 0 a) 78 1 b) 78 2 k) 78 3 p) 78 4 s) 78 5 m) 78 6 n) 4174 (nI L)) 4175 40) 4176 0) 4177 (-1)) 4185 1) 4176 (nI L)) 4185 0) hA ?_ rfl (fun o ho => ?_) (fun i hi => ?_)
    · unfold f_X11_wayBy_b25 f_X11_begin_77
      rw [h84, if_neg (show ¬ nI L ≤ 0 from nI_nle (by omega) (by omega))]
      simp only [bnd]
      rw [hr]
      simp only [bnd]
      rw [m_120 hk0]
    · show (gA (gA (gA (gA (gA (gA (gA τ 78 0 a) 78 1 b) 78 2 k) 78 3 p) 78 4 s) 78 5 m) 78 6 n).2 o = τ.2 o
      rw [gA_ne _ _ ho, gA_ne _ _ ho, gA_ne _ _ ho, gA_ne _ _ ho, gA_ne _ _ ho, gA_ne _ _ ho, gA_ne _ _ ho]
    · rw [gs_ne _ _ (by omega), gs_ne _ _ (by omega), gs_ne _ _ (by omega), gs_ne _ _ (by omega), gs_ne _ _ (by omega), gs_ne _ _ (by omega), gs_ne _ _ (by omega)]
      rfl
/-- the rule that an object begins with -/
theorem rU0_empty (cd rl : Nat → Int32) : rU0 cd 0 rl 0 := rU0_mk (len := 0) (L := 0) (d := fun _ => 0) (ev := fun _ => 0) (by omega) (by omega) (Or.inl ⟨rfl, rfl⟩)
theorem m_73 {L : Nat} (hL : L ≤ 40) : ∀ (m i fu : Nat) (t : jT), i + m = L → m < fu → (∀ j, j < L → -128 ≤ t.2 71 j ∧ t.2 71 j ≤ 127) →
    ∃ t', f_X11_rule_b73 fu (nI L) (nI i) t = some (0, gs t' 4184 (nI L)) ∧ t'.1 = t.1 ∧ (∀ o, o ≠ 77 → t'.2 o = t.2 o) ∧ (∀ j, i ≤ j → j < L → t'.2 77 j = t.2 71 j) ∧ ∀ j, j < i → t'.2 77 j = t.2 77 j := by
  intro m
  induction m with
  | zero =>
    intro i fu t hi hf ht
    obtain ⟨fu, rfl⟩ : ∃ f', fu = f' + 1 := ⟨fu - 1, by omega⟩
    rw [f_X11_rule_b73, if_pos ((ja_le (by omega) (by omega)).2 (by omega))]
    exact ⟨t, rfl, rfl, fun _ _ => rfl, fun j h1 h2 => by omega, fun _ _ => rfl⟩
  | succ m ih =>
    intro i fu t hi hf ht
    obtain ⟨fu, rfl⟩ : ∃ f', fu = f' + 1 := ⟨fu - 1, by omega⟩
    have e71 : (gA t 77 i (t.2 71 i)).2 71 = t.2 71 := gA_ne _ _ (by decide)
    obtain ⟨t', b1, b2, b3, b4, b5⟩ := ih (i + 1) fu (gA t 77 i (t.2 71 i)) (by omega) (by omega) (by rw [e71]; exact ht)
    obtain ⟨u1, u2⟩ := ht i (by omega)
    rw [f_X11_rule_b73, if_neg (fun q => by have := (ja_le (by omega) (by omega)).1 q; omega), if_pos (ja_in (by omega) (by omega)), if_pos (ja_in (by omega) (by omega)), nI_clamp (by omega), nS, byte_id _ u1 u2, b1]
    refine ⟨t', rfl, b2, fun o ho => (b3 o ho).trans (gA_ne _ _ ho), fun j h1 h2 => ?_, fun j h1 => ?_⟩
    · by_cases z : j = i
      · rw [z, b5 i (by omega)]
        exact if_pos ⟨rfl, rfl⟩
      · rw [b4 j (by omega) h2, e71]
    · rw [b5 j (by omega)]
      exact if_neg (fun q => by omega)
def coreCu (σ : jT) := ((σ.1 195, σ.1 196, σ.2 4, σ.2 5), (σ.1 197, σ.2 6), σ.2 13, (σ.1 898, σ.1 899, pastC σ), (σ.1 900, keptC σ), (σ.1 3009, σ.2 48), (σ.1 12, σ.2 62))
def coreMu (τ : jT) := ((τ.1 4161, τ.1 4164, τ.2 67, τ.2 68), (τ.1 4165, τ.2 69, τ.2 70), τ.2 66, (τ.1 4189, τ.2 79), (τ.1 4208, τ.2 92, τ.2 93, τ.2 94), (τ.1 4171, τ.2 72), (τ.1 4203, τ.2 88))
theorem rAll_rule {n P Q : Nat} {σ σ' τ τ' : jT} (h : rAll n P Q σ τ) (h1 : coreCu σ' = coreCu σ) (h2 : coreMu τ' = coreMu τ) (hT : rT σ' τ') (hU : rU σ' τ') : rAll n P Q σ' τ' := by
  simp only [coreCu, Prod.mk.injEq] at h1
  simp only [coreMu, Prod.mk.injEq] at h2
  obtain ⟨⟨a3, a4, a5, a6⟩, ⟨a7, a8⟩, a9, ⟨a12, a13, a14⟩, ⟨a15, a16⟩, ⟨a17, a18⟩, ⟨a19, a20⟩⟩ := h1
  obtain ⟨⟨b3, b4, b5, b6⟩, ⟨b7, b8, b9⟩, b10, ⟨b13, b14⟩, ⟨b15, b16, b17, b18⟩, ⟨b19, b20⟩, ⟨b21, b22⟩⟩ := h2
  simp only [rAll, rL, rR, rN, rH, rK, rW, rP] at h ⊢
  simp only [a3, a4, a5, a6, a7, a8, a9, a12, a13, a14, a15, a16, a17, a18, a19, a20, b3, b4, b5, b6, b7, b8, b9, b10, b13, b14, b15, b16, b17, b18, b19, b20, b21, b22]
  exact ⟨fun _ => hT, h.2.1, h.2.2.1, h.2.2.2.1, hU, h.2.2.2.2.2.1, h.2.2.2.2.2.2.1, h.2.2.2.2.2.2.2.1, h.2.2.2.2.2.2.2.2⟩
theorem m_57bad {e : Nat} {x : Int32} {τ : jT} (he : e < 2 ^ 31) (hw : τ.1 4177 = nI e) : f_X11_rule_b57 x τ = some (-1 - nI e, τ) := by
  unfold f_X11_rule_b57
  rw [m_fine0 (by rw [hw]; exact ja_neg1 he)]
  simp only [bnd]
  rw [iNT, hw]
theorem eq_rule {n P Q : Nat} {σ τ : jT} (hn : n < 1000) (h : rAll n P Q σ τ) : rEq n (f_X10_rule σ) (f_X11_rule τ) := by
  obtain ⟨hT, -, -, -, -, -, -, -, hPr⟩ := id h
  have hT0 := hT (by omega)
  obtain ⟨L', hL'80, t1', -, t3⟩ := id hT0
  obtain ⟨L, d, hX, t2⟩ := rX_of hT0
  obtain ⟨hL80, x1, x2⟩ := id hX
  have hLL : L' = L := (ja_eq (by omega) (by omega)).1 (t1'.symm.trans x1)
  subst hLL
  have hd : ∀ j, j < L' → d j < 256 := fun j hj => (x2 j hj).1
  -- where both begin to read
  have hb : bX L' 40 d (gs (gs (gs σ 453 0) 66 40) 67 0) := ⟨hL80, by omega, x1, rfl, fun j hj => ⟨(x2 j hj).1, (x2 j hj).2.1⟩⟩
  have hm : mT L' d 0 (gs (gs (gs (gs (gs (gs (gs τ 4172 0) 4174 (nI L')) 4175 40) 4176 0) 4177 (-1)) 4169 0) 4185 0) := ⟨⟨hL80, by omega, by omega, rfl, rfl, rfl, rfl, fun j hj => ⟨(x2 j hj).1, (x2 j hj).2.2⟩⟩, rfl⟩
  have hs : cQ (gs (gs (gs σ 453 0) 66 40) 67 0) 0 0 (σ.2 9) = gs (gs (gs σ 453 0) 66 40) 67 0 := cQ_same (σ := gs (gs (gs σ 453 0) 66 40) 67 0) rfl rfl
  unfold f_X10_rule f_X7_read_1 f_X11_rule f_X11_begin_71
  unfold f_X9_open f_X9_length
  simp only [bnd]
  have y1 : (gs (gs (gs σ 453 0) 66 40) 67 0).1 65 = nI L' := x1
  rw [y1, t2]
  by_cases z : L' = 0
  · rw [if_pos (show nI L' ≤ 0 by rw [z]; decide), if_pos (show nI L' ≤ 0 by rw [z]; decide)]
    unfold f_X7_read_1_b45 f_X9_clear f_X11_rule_b71
    simp only [bnd]
    rw [iNT]
    have e73 : f_X11_rule_b73 1000 (nI L') 0 (gs (gs (gs (gs (gs (gs (gs τ 4172 0) 4174 (nI L')) 4175 40) 4176 0) 4177 (-1)) 4169 0) 4185 0) = some (0, gs (gs (gs (gs (gs (gs (gs (gs τ 4172 0) 4174 (nI L')) 4175 40) 4176 0) 4177 (-1)) 4169 0) 4185 0) 4184 (nI L')) := by
      rw [show (1000 : Nat) = 999 + 1 from rfl, f_X11_rule_b73, if_pos (show nI L' ≤ 0 by rw [z]; decide)]
    rw [e73]
    refine ⟨0, _, _, P, Q, rfl, rfl, rfl, rAll_rule (rAll_step h) rfl rfl (rT0 rfl rfl) ?_⟩
    rw [z]
    exact rU0_empty _ _
  · rw [if_neg (show ¬ nI L' ≤ 0 from nI_nle (by omega) (by omega)), if_neg (show ¬ nI L' ≤ 0 from nI_nle (by omega) (by omega))]
    rcases all_ok hd 4 0 (by omega) 0 (by omega) (Nat.zero_le _) with ⟨j, C, ev, a1, a2, a3, a4, a5, a6, a7, a8⟩ | ⟨e, a1, a2, a3⟩
    · have c1 : f_rec0 100 0 [0, 0] (gs (gs (gs σ 453 0) 66 40) 67 0) = some (1, cQ (gs (gs (gs σ 453 0) 66 40) 67 0) j (0 + C.length) (wr (σ.2 9) 0 C)) := by
        have := a5 100 (gs (gs (gs σ 453 0) 66 40) 67 0) 0 (σ.2 9) (by omega) hb (by omega)
        rw [hs] at this
        exact this
      obtain ⟨v, w⟩ := a6 100 _ (by omega) hm
      have w' : f_rec2 100 3 [0] (gs (gs (gs (gs (gs (gs (gs τ 4172 0) 4174 (nI L')) 4175 40) 4176 0) 4177 (-1)) 4169 0) 4185 0) = some (v, gs (gs (gs (gs (gs (gs (gs (gs τ 4172 0) 4174 (nI L')) 4175 40) 4176 0) 4177 (-1)) 4169 0) 4185 0) 4176 (nI j)) := w
      rw [c1, w']
      simp only [bnd]
      rw [if_pos (show ¬ (1 : Int32) = 0 by decide), c_rest (cQ_X hb (by omega)) a3 a2]
      simp only [bnd]
      have e76 : (gs (gs (gs (gs (gs (gs (gs (gs τ 4172 0) 4174 (nI L')) 4175 40) 4176 0) 4177 (-1)) 4169 0) 4185 0) 4176 (nI j)).1 4176 = nI j := rfl
      have e77 : (gs (gs (gs (gs (gs (gs (gs (gs τ 4172 0) 4174 (nI L')) 4175 40) 4176 0) 4177 (-1)) 4169 0) 4185 0) 4176 (nI j)).1 4177 = -1 := rfl
      rw [e76]
      by_cases q : j = L'
      · rw [if_pos q, if_pos rfl, if_pos ((ja_le (by omega) (by omega)).2 (by omega))]
        unfold f_X7_read_1_b45 f_X9_clear f_X11_rule_b57
        rw [m_fine e77]
        simp only [bnd]
        unfold f_X11_rule_b71
        rw [iNT, if_pos (show ¬ (1 : Int32) = 0 by decide)]
        obtain ⟨t', b1, b2, b3, b4, -⟩ := m_73 (L := L') (by omega) L' 0 1000 (gs (gs (gs (gs (gs (gs (gs (gs τ 4172 0) 4174 (nI L')) 4175 40) 4176 0) 4177 (-1)) 4169 0) 4185 0) 4176 (nI j)) (by omega) (by omega) (fun z hz => ⟨(t3 z hz).2.1, (t3 z hz).2.2⟩)
        have b1' : f_X11_rule_b73 1000 (nI L') 0 (gs (gs (gs (gs (gs (gs (gs (gs τ 4172 0) 4174 (nI L')) 4175 40) 4176 0) 4177 (-1)) 4169 0) 4185 0) 4176 (nI j)) = some (0, gs t' 4184 (nI L')) := b1
        rw [b1']
        have g1 : ∀ z, z ≠ 4184 → (gs t' 4184 (nI L')).1 z = (gs (gs (gs (gs (gs (gs (gs (gs τ 4172 0) 4174 (nI L')) 4175 40) 4176 0) 4177 (-1)) 4169 0) 4185 0) 4176 (nI j)).1 z := fun z hz => (gs_ne _ _ hz).trans (congrFun b2 z)
        have g2 : ∀ o, o ≠ 77 → (gs t' 4184 (nI L')).2 o = τ.2 o := fun o ho => b3 o ho
        refine ⟨0, _, _, P, Q, rfl, rfl, g1 4172 (by decide), rAll_rule (rAll_step h) rfl ?_ (rT0 rfl (g1 4169 (by decide))) ?_⟩
        · unfold coreMu
          rw [g1 4161 (by decide), g1 4164 (by decide), g1 4165 (by decide), g1 4189 (by decide), g1 4208 (by decide), g1 4171 (by decide), g1 4203 (by decide), g2 67 (by decide), g2 68 (by decide), g2 69 (by decide), g2 70 (by decide), g2 66 (by decide), g2 79 (by decide), g2 92 (by decide), g2 93 (by decide), g2 94 (by decide), g2 72 (by decide), g2 88 (by decide)]
          rfl
        · have hrl : ∀ z, z < L' → (gs t' 4184 (nI L')).2 77 z = τ.2 71 z := fun z hz => b4 z (Nat.zero_le _) hz
          rw [q] at a7 a4
          have hcl : (gs (gs (gC (cQ (gs (gs (gs σ 453 0) 66 40) 67 0) j (0 + C.length) (wr (σ.2 9) 0 C)) 9 8 0 0 40) 452 ((cQ (gs (gs (gs σ 453 0) 66 40) 67 0) j (0 + C.length) (wr (σ.2 9) 0 C)).1 453)) 65 0).1 452 = nI C.length := by
            show nI (0 + C.length) = nI C.length
            rw [Nat.zero_add]
          unfold rU
          rw [hcl, show (gs t' 4184 (nI L')).1 4184 = nI L' from rfl]
          refine rU0_mk (d := d) (ev := ev) (by omega) (by omega) (Or.inr ⟨by omega, fun z hz => ?_, a7, fun e => ?_⟩)
          · rw [hrl z hz]
            exact ⟨(x2 z hz).1, (x2 z hz).2.2⟩
          · rw [← a8 e [], ← rn_list C (σ.2 9) 0 []]
            refine rnA_congr _ _ _ (fun z h1 h2 => ?_)
            show va_cpy (wr (σ.2 9) 0 C) (σ.2 8) 0 0 40 z = wr (σ.2 9) 0 C z
            unfold va_cpy
            rw [if_pos ⟨by omega, by omega⟩, Nat.zero_add, Nat.sub_zero]
      · rw [if_neg q, if_neg (ja_neg1 (by omega)), if_neg (show ¬ nI L' ≤ nI j from fun c => by have := (ja_le (by omega) (by omega)).1 c; omega), m_fault e77]
        unfold f_X9_clear
        simp only [bnd]
        rw [if_pos (ja_neg1 (by omega)), m_57bad (e := j) (by omega) rfl]
        exact ⟨_, _, _, P, Q, rfl, rfl, rfl, rAll_text (rAll_step h) rfl rfl (rT0 rfl rfl) (rP_c hPr rfl rfl rfl rfl)⟩
    · obtain ⟨q', D', u1, u2⟩ := a2 100 (gs (gs (gs σ 453 0) 66 40) 67 0) 0 (σ.2 9) (by omega) hb (by omega)
      rw [hs] at u2
      have u2' : f_rec0 100 0 [0, 0] (gs (gs (gs σ 453 0) 66 40) 67 0) = some (0, cQ (gs (gs (gs σ 453 0) 66 40) 67 0) e q' D') := u2
      obtain ⟨v, a, w⟩ := a3 100 _ (by omega) hm
      have w' : f_rec2 100 3 [0] (gs (gs (gs (gs (gs (gs (gs τ 4172 0) 4174 (nI L')) 4175 40) 4176 0) 4177 (-1)) 4169 0) 4185 0) = some (v, gs (gs (gs (gs (gs (gs (gs (gs (gs τ 4172 0) 4174 (nI L')) 4175 40) 4176 0) 4177 (-1)) 4169 0) 4185 0) 4176 a) 4177 (nI e)) := w
      rw [u2', w']
      simp only [bnd]
      rw [iNT, c_pos (cQ_X hb (by omega))]
      unfold f_X9_clear
      simp only [bnd]
      have hbad : ¬ (gs (gs (gs (gs (gs (gs (gs (gs (gs τ 4172 0) 4174 (nI L')) 4175 40) 4176 0) 4177 (-1)) 4169 0) 4185 0) 4176 a) 4177 (nI e)).1 4177 = -1 := ja_neg1 (k := e) (by omega)
      rw [if_pos (ja_neg1 (by omega)), m_fault0 hbad]
      simp only [bnd]
      rw [m_57bad (e := e) (by omega) rfl]
      have key : ∀ (p : Prop) [Decidable p] (x : Option (Int32 × jT)), (if p then x else x) = x := fun p _ x => by split <;> rfl
      rw [key]
      exact ⟨_, _, _, P, Q, rfl, rfl, rfl, rAll_text (rAll_step h) rfl rfl (rT0 rfl rfl) (rP_c hPr rfl rfl rfl rfl)⟩
