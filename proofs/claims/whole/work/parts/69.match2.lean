/-! ===== matches: all partings ===== -/
noncomputable def cntR (one : Nat) (R : Nat → Prop) : Nat := cN (fun i => one ≤ i ∧ R i) 6
/-- from one on all is parted alike -/
def recH (Q p : Nat) (Th : Nat → Prop) (σ0 τ0 : jT) (fuC fuM one : Nat) : Prop := ∀ (x : Int32) (R : Nat → Prop) (sum odd : Nat) (σ τ : jT), rep x R → (∀ i, R i → one ≤ i ∧ i < Q ∧ Th i) → sum ≤ 200 * one → odd ≤ 1 → mtI Q σ0 τ0 σ τ R →
  ∃ σ' τ', f_rec1 fuC 0 [nI one, x, nI sum, nI odd] σ = some (0, σ') ∧ f_rec4 fuM 0 [nI one, x, nI odd, nI sum, nI p] τ = some (0, τ') ∧ mtI Q σ0 τ0 σ' τ' R ∧ (cntR one R % 2 = odd → ¬ σ'.1 3715 = -1) ∧ (¬ σ.1 3715 = -1 → ¬ σ'.1 3715 = -1) ∧ ∀ i, ¬ R i → τ'.2 86 i = τ.2 86 i
theorem mt_ltail {x x1 x3 x4 : Int32} {R : Nat → Prop} {σ : jT} (hx : rep x R) (rec : Nat → List Int32 → jT → Option (Int32 × jT)) : ∀ (m o fu : Nat), o + m = 6 → m < fu → (∀ i, o ≤ i → ¬ R i) → f_X4_part_b88 rec fu x1 x x3 x4 (nI o) σ = some (0, σ) := by
  intro m
  induction m with
  | zero =>
    intro o fu ho hf hR
    obtain ⟨fu, rfl⟩ : ∃ f', fu = f' + 1 := ⟨fu - 1, by omega⟩
    rw [f_X4_part_b88, if_pos (show (6 : Int32) ≤ nI o from by rw [show o = 6 by omega]; decide)]
  | succ m ih =>
    intro o fu ho hf hR
    obtain ⟨fu, rfl⟩ : ∃ f', fu = f' + 1 := ⟨fu - 1, by omega⟩
    rw [f_X4_part_b88, if_neg (show ¬ (6 : Int32) ≤ nI o from nI_ge (b := 6) (by omega) (by omega)), (rep_test hx (q := o) (by omega)).2 (hR o (Nat.le_refl _)), if_pos rfl]
    unfold f_X4_part_b159
    rw [nS]
    exact ih (o + 1) fu (by omega) (by omega) (fun i hi => hR i (by omega))
theorem ix66 {a b : Nat} (ha : a < 6) (hb : b < 6) : nI a * 6 + nI b = nI (6 * a + b) := by
  have : ∀ a, a < 6 → nI a * 6 = nI (6 * a) := by decide
  rw [this a ha]; exact ja_add _ _
theorem mt_loop {Q p one sum odd fuC fuM : Nat} {Th R : Nat → Prop} {σ0 τ0 sg tg : jT} {S : Nat → Nat → Nat} {x : Int32} (hQ : Q ≤ 6) (q2 : τ0.1 4165 = nI Q) (hS : stT Q p sg tg S) (htg : coreGM τ0 = coreGM tg) (h59 : ∀ a b, a < b → b < Q → Th a → Th b → σ0.2 59 (6 * a + b) = nI (S a b)) (hrec : recH Q p Th σ0 τ0 fuC fuM (one + 1)) (hx : rep x R) (hR : ∀ i, R i → one ≤ i ∧ i < Q ∧ Th i) (h1 : R one) (hsum : sum ≤ 200 * one) (hodd : odd ≤ 1) :
    ∀ (m o fu fu' : Nat) (σ τ : jT), o + m = Q → one < o → 6 - o < fu → m < fu' → mtI Q σ0 τ0 σ τ R →
    ∃ σ' τ', f_X4_part_b88 (f_rec1 fuC) fu (nI one) x (nI sum) (nI odd) (nI o) σ = some (0, σ') ∧ f_X11_goMatches_b109 (f_rec4 fuM) fu' (nI one) x (nI odd) (nI sum) (nI p) (nI o) τ = some (0, τ') ∧ mtI Q σ0 τ0 σ' τ' R ∧ ((∃ o', o ≤ o' ∧ R o') → cntR one R % 2 = odd → ¬ σ'.1 3715 = -1) ∧ (¬ σ.1 3715 = -1 → ¬ σ'.1 3715 = -1) ∧ ∀ i, ¬ R i → τ'.2 86 i = τ.2 86 i := by
  have h1Q := (hR one h1).2.1
  intro m
  induction m with
  | zero =>
    intro o fu fu' σ τ ho hone hf hf' hi
    have hnR : ∀ i, o ≤ i → ¬ R i := fun i h w => by have := hR i w; omega
    rw [mt_ltail hx (f_rec1 fuC) (6 - o) o fu (by omega) hf hnR]
    obtain ⟨fu', rfl⟩ : ∃ f', fu' = f' + 1 := ⟨fu' - 1, by omega⟩
    have q2' : τ.1 4165 = nI Q := by rw [hi.2.1.1 4165 (by decide) (by decide) (by decide) (by decide) (by decide) (by decide)]; exact q2
    rw [f_X11_goMatches_b109, q2', if_pos ((ja_le (by omega) (by omega)).2 (by omega))]
    exact ⟨σ, τ, rfl, rfl, hi, fun ⟨o', w1, w2⟩ => absurd w2 (hnR o' w1), id, fun _ _ => rfl⟩
  | succ m ih =>
    intro o fu fu' σ τ ho hone hf hf' hi
    obtain ⟨fu, rfl⟩ : ∃ f', fu = f' + 1 := ⟨fu - 1, by omega⟩
    obtain ⟨fu', rfl⟩ : ∃ f', fu' = f' + 1 := ⟨fu' - 1, by omega⟩
    obtain ⟨i1, i2, i3, i4, i5, i6⟩ := id hi
    have q2' : τ.1 4165 = nI Q := by rw [i2.1 4165 (by decide) (by decide) (by decide) (by decide) (by decide) (by decide)]; exact q2
    rw [f_X4_part_b88, if_neg (show ¬ (6 : Int32) ≤ nI o from nI_ge (b := 6) (by omega) (by omega)), f_X11_goMatches_b109, q2', if_neg (show ¬ nI Q ≤ nI o from fun c => by have := (ja_le (by omega) (by omega)).1 c; omega)]
    obtain ⟨t1, t2⟩ := rep_test hx (q := o) (by omega)
    obtain ⟨u1, u2⟩ := rep_has (τ := τ) hx (q := o) (by omega)
    unfold f_X4_part_b159 f_X11_goMatches_b195
    by_cases c : R o
    · rw [t1 c, u1 c, if_neg (show ¬ (1 : Int32) = 0 by decide)]
      simp only [bnd]
      rw [if_pos (show ¬ (1 : Int32) = 0 by decide), if_pos (ja_in (n := 6) (by omega) (by omega)), if_pos (ja_in (n := 6) (by omega) (by omega)), ix66 (by omega) (by omega), if_pos (ja_in (n := 36) (by omega) (by omega)), if_pos (ja_in (n := 6) (by omega) (by omega)), if_pos (ja_in (n := 6) (by omega) (by omega)), nI_clamp (by omega), nI_clamp (by omega), nI_clamp (by omega), nS, nS]
      obtain ⟨hs200, -, hsm⟩ := hS one o h1Q (by omega) (by omega)
      have e59 : σ.2 59 (6 * one + o) = nI (S one o) := by
        rw [i1.2 59 (by decide) (by decide)]
        exact h59 one o (by omega) (by omega) (hR one h1).2.2 (hR o c).2.2
      have gτ : gF2 τ0 (gA (gA τ 86 one (nI o)) 86 o (nI one)) := gF2_trans i2 (gF2_trans gF2_86 gF2_86)
      obtain ⟨τb, e1, e2⟩ := hsm _ ((gF2_g gτ).trans htg)
      rw [e1, e59]
      simp only [bnd]
      rw [ja_add]
      have hx' : rep (x &&& (((1 <<< (nI one &&& 31)) ||| (1 <<< (nI o &&& 31))) ^^^ (-1))) (fun i => R i ∧ ¬ (i = one ∨ i = o)) := rep_dif hx (rep_or (rep_bit (by omega)) (rep_bit (by omega)))
      have r86 : ∀ i, τb.2 86 i = if i = o then nI one else if i = one then nI o else τ.2 86 i := by
        intro i
        rw [e2.2 86 (by decide) (by decide), ja_gA, ja_gA]
        by_cases z1 : i = o
        · rw [if_pos ⟨rfl, z1⟩, if_pos z1]
        · rw [if_neg (fun w => z1 w.2), if_neg z1]
          by_cases z2 : i = one
          · rw [if_pos ⟨rfl, z2⟩, if_pos z2]
          · rw [if_neg (fun w => z2 w.2), if_neg z2]
      have r60 : ∀ i, (gA (gA σ 60 one (nI o)) 60 o (nI one)).2 60 i = if i = o then nI one else if i = one then nI o else σ.2 60 i := by
        intro i
        rw [ja_gA, ja_gA]
        by_cases z1 : i = o
        · rw [if_pos ⟨rfl, z1⟩, if_pos z1]
        · rw [if_neg (fun w => z1 w.2), if_neg z1]
          by_cases z2 : i = one
          · rw [if_pos ⟨rfl, z2⟩, if_pos z2]
          · rw [if_neg (fun w => z2 w.2), if_neg z2]
      have hi' : mtI Q σ0 τ0 (gA (gA σ 60 one (nI o)) 60 o (nI one)) τb (fun i => R i ∧ ¬ (i = one ∨ i = o)) := by
        refine ⟨gF1_trans i1 (gF1_trans gF1_60 gF1_60), gF2_trans gτ (gF2_q e2), fun i hi6 hn => ?_, fun i hi6 hr => ?_, ?_, ?_⟩
        · rw [r60, r86]
          by_cases z1 : i = o
          · rw [if_pos z1, if_pos z1]
          · rw [if_neg z1, if_neg z1]
            by_cases z2 : i = one
            · rw [if_pos z2, if_pos z2]
            · rw [if_neg z2, if_neg z2]
              exact i3 i hi6 (fun w => hn ⟨w, fun q => q.elim z2 z1⟩)
        · rw [r86, if_neg (fun w => hr.2 (Or.inr w)), if_neg (fun w => hr.2 (Or.inl w))]
          exact i4 i hi6 hr.1
        · rw [e2.1 4201 (by decide) (by decide) (by decide) (by decide) (by decide)]; exact i5
        · rw [e2.2 87 (by decide) (by decide)]; exact i6
      obtain ⟨σ1, τ1, f1, f2, f3, f4, f5, f6⟩ := hrec _ _ (sum + S one o) odd _ _ hx' (fun i hi => by
        have := hR i hi.1
        have h2 : i ≠ one := fun w => hi.2 (Or.inl w)
        exact ⟨by omega, this.2.1, this.2.2⟩) (by omega) hodd hi'
      rw [f1, f2]
      simp only [bnd]
      obtain ⟨j1, j2, j3, j4, j5, j6⟩ := id f3
      have r2 : ∀ i, (gA (gA τ1 86 one (-1)) 86 o (-1)).2 86 i = if i = o then -1 else if i = one then -1 else τ1.2 86 i := by
        intro i
        rw [ja_gA, ja_gA]
        by_cases z1 : i = o
        · rw [if_pos ⟨rfl, z1⟩, if_pos z1]
        · rw [if_neg (fun w => z1 w.2), if_neg z1]
          by_cases z2 : i = one
          · rw [if_pos ⟨rfl, z2⟩, if_pos z2]
          · rw [if_neg (fun w => z2 w.2), if_neg z2]
      have hi2 : mtI Q σ0 τ0 σ1 (gA (gA τ1 86 one (-1)) 86 o (-1)) R := by
        refine ⟨j1, gF2_trans j2 (gF2_trans gF2_86 gF2_86), fun i hi6 hn => ?_, fun i hi6 hr => ?_, j5, j6⟩
        · rw [r2, if_neg (fun w => hn (by rw [w]; exact c)), if_neg (fun w => hn (by rw [w]; exact h1))]
          exact j3 i hi6 (fun w => hn w.1)
        · rw [r2]
          by_cases z1 : i = o
          · rw [if_pos z1]
          · rw [if_neg z1]
            by_cases z2 : i = one
            · rw [if_pos z2]
            · rw [if_neg z2]
              exact j4 i hi6 ⟨hr, fun q => q.elim z2 z1⟩
      obtain ⟨σ2, τ2, g1, g2, g3, g4, g5, g6⟩ := ih (o + 1) fu fu' σ1 _ (by omega) (by omega) (by omega) (by omega) hi2
      refine ⟨σ2, τ2, g1, g2, g3, fun _ hpar => g5 (f4 ?_), fun w => g5 (f5 w), fun i hn => ?_⟩
      · have a1 : cN (fun i => (one + 1 ≤ i ∧ (R i ∧ ¬ (i = one ∨ i = o))) ∨ i = o) 6 = cntR (one + 1) (fun i => R i ∧ ¬ (i = one ∨ i = o)) + 1 := cN_add (j := o) (by omega) (fun w => w.2.2 (Or.inr rfl)) (fun i _ => Iff.rfl)
        have a2 : cntR one R = cN (fun i => (one + 1 ≤ i ∧ (R i ∧ ¬ (i = one ∨ i = o))) ∨ i = o) 6 + 1 := cN_add (j := one) (by omega) (fun w => w.elim (fun w => by omega) (fun w => by omega)) (fun i _ => ⟨fun w => ?_, fun w => ?_⟩)
        · omega
        · by_cases z1 : i = one
          · exact Or.inr z1
          · by_cases z2 : i = o
            · exact Or.inl (Or.inr z2)
            · exact Or.inl (Or.inl ⟨by omega, w.2, fun q => q.elim z1 z2⟩)
        · rcases w with (w | w) | w
          · exact ⟨by omega, w.2.1⟩
          · rw [w]; exact ⟨by omega, c⟩
          · rw [w]; exact ⟨by omega, h1⟩
      · rw [g6 i hn, r2, if_neg (fun w => hn (by rw [w]; exact c)), if_neg (fun w => hn (by rw [w]; exact h1)), f6 i (fun w => hn w.1), r86, if_neg (fun w => hn (by rw [w]; exact c)), if_neg (fun w => hn (by rw [w]; exact h1))]
    · rw [t2 c, u2 c, if_pos rfl]
      simp only [bnd]
      rw [iNT, nS]
      obtain ⟨σ2, τ2, g1, g2, g3, g4, g5, g6⟩ := ih (o + 1) fu fu' σ τ (by omega) (by omega) (by omega) (by omega) hi
      refine ⟨σ2, τ2, g1, g2, g3, fun ⟨o', w1, w2⟩ hpar => g4 ⟨o', ?_, w2⟩ hpar, g5, g6⟩
      by_cases z : o' = o
      · rw [z] at w2; exact absurd w2 c
      · omega
theorem mt_both {Q p : Nat} {Th : Nat → Prop} {σ0 τ0 sg tg : jT} {S : Nat → Nat → Nat} (hQ : Q ≤ 6) (q2 : τ0.1 4165 = nI Q) (hS : stT Q p sg tg S) (htg : coreGM τ0 = coreGM tg) (h59 : ∀ a b, a < b → b < Q → Th a → Th b → σ0.2 59 (6 * a + b) = nI (S a b)) : ∀ (m one fuC fuM : Nat), one + m = Q → 6 - one < fuC → m < fuM → recH Q p Th σ0 τ0 fuC fuM one := by
  intro m
  induction m with
  | zero =>
    intro one fuC fuM h1 hC hM x R sum odd σ τ hx hR hsum hodd hi
    obtain ⟨σ', τ', e1, e2, e3, e4, e5⟩ := mt_end (p := p) (o := nI odd) hQ q2 hx (show sum ≤ 2000 by omega) (show one = Q by omega) hC hM (fun i h => ⟨(hR i h).1, (hR i h).2.1⟩) hi
    exact ⟨σ', τ', e1, e2, e3, fun _ => e4, fun _ => e4, e5⟩
  | succ m ih =>
    intro one fuC fuM h1 hC hM x R sum odd σ τ hx hR hsum hodd hi
    obtain ⟨fuC, rfl⟩ : ∃ f', fuC = f' + 1 := ⟨fuC - 1, by omega⟩
    obtain ⟨fuM, rfl⟩ : ∃ f', fuM = f' + 1 := ⟨fuM - 1, by omega⟩
    have hrec := ih (one + 1) fuC fuM (by omega) (by omega) (by omega)
    obtain ⟨i1, i2, i3, i4, i5, i6⟩ := id hi
    have q2' : τ.1 4165 = nI Q := by rw [i2.1 4165 (by decide) (by decide) (by decide) (by decide) (by decide) (by decide)]; exact q2
    rw [f_rec1, f_rec4]
    unfold f_X4_part f_X11_goMatches
    rw [if_pos (show nI one < 6 from (ja_lt (b := 6) (by omega) (by omega)).2 (by omega)), q2', if_pos (show ¬ nI one = nI Q from fun q => by have := (ja_eq (by omega) (by omega)).1 q; omega)]
    obtain ⟨t1, t2⟩ := rep_test hx (q := one) (by omega)
    obtain ⟨u1, u2⟩ := rep_has (τ := τ) hx (q := one) (by omega)
    by_cases c : R one
    · rw [t1 c, u1 c, if_pos (show ¬ (1 : Int32) = 0 by decide)]
      simp only [bnd]
      rw [if_pos (show ¬ (1 : Int32) = 0 by decide)]
      unfold f_X4_part_b83 f_X11_goMatches_b104
      rw [nS]
      rcases (show odd = 0 ∨ odd = 1 by omega) with rfl | rfl
      · rw [if_pos (show nI 0 = 0 from rfl), if_pos (show nI 0 ≤ 0 by decide)]
        obtain ⟨σ', τ', g1, g2, g3, g4, g5, g6⟩ := mt_loop hQ q2 hS htg h59 hrec hx hR c hsum (show 0 ≤ 1 by omega) (Q - (one + 1)) (one + 1) 1000 1000 σ τ (by omega) (by omega) (by omega) (by omega) hi
        refine ⟨σ', τ', g1, g2, g3, fun hpar => g4 ?_ hpar, g5, g6⟩
        by_cases w : ∃ o', one + 1 ≤ o' ∧ R o'
        · exact w
        · have h0 : cN (fun _ => False) 6 = 0 := cN_none 6 (fun _ _ q => q)
          have h2 : cntR one R = cN (fun _ => False) 6 + 1 := cN_add (j := one) (by omega) (fun q => q) (fun i _ => ⟨fun q => Or.inr ?_, fun q => ?_⟩)
          · omega
          · by_cases z : i = one
            · exact z
            · exact absurd ⟨i, by omega, q.2⟩ w
          · rcases q with q | q
            · exact q.elim
            · rw [q]; exact ⟨Nat.le_refl _, c⟩
      · rw [if_neg (show ¬ nI 1 = 0 by decide), if_neg (show ¬ nI 1 ≤ 0 by decide), if_pos (ja_in (n := 6) (by omega) (by omega)), nI_clamp (by omega), show nI 1 - 1 = nI 0 from rfl]
        have hx' : rep (x &&& ((1 <<< (nI one &&& 31)) ^^^ (-1))) (fun i => R i ∧ ¬ i = one) := rep_dif hx (rep_bit (by omega))
        have hi' : mtI Q σ0 τ0 (gA σ 60 one (-1)) τ (fun i => R i ∧ ¬ i = one) := by
          refine ⟨gF1_trans i1 gF1_60, i2, fun i hi6 hn => ?_, fun i hi6 hr => i4 i hi6 hr.1, i5, i6⟩
          rw [ja_gA]
          by_cases z : i = one
          · rw [if_pos ⟨rfl, z⟩, z, i4 one (by omega) c]
          · rw [if_neg (fun w => z w.2)]; exact i3 i hi6 (fun w => hn ⟨w, z⟩)
        obtain ⟨σ1, τ1, f1, f2, f3, f4, f5, f6⟩ := hrec _ _ sum 0 _ _ hx' (fun i hi => by
          have := hR i hi.1
          have h2 : i ≠ one := hi.2
          exact ⟨by omega, this.2.1, this.2.2⟩) (by omega) (by omega) hi'
        have f1' : f_rec1 fuC 0 [nI (one + 1), x &&& ((1 <<< (nI one &&& 31)) ^^^ (-1)), nI sum, 0] (gA σ 60 one (-1)) = _ := f1
        rw [f1', f2]
        simp only [bnd]
        obtain ⟨j1, j2, j3, j4, j5, j6⟩ := id f3
        have hi2 : mtI Q σ0 τ0 σ1 τ1 R := by
          refine ⟨j1, j2, fun i hi6 hn => j3 i hi6 (fun w => hn w.1), fun i hi6 hr => ?_, j5, j6⟩
          by_cases z : i = one
          · rw [z, f6 one (fun w => w.2 rfl)]; exact i4 one (by omega) c
          · exact j4 i hi6 ⟨hr, z⟩
        obtain ⟨σ', τ', g1, g2, g3, g4, g5, g6⟩ := mt_loop hQ q2 hS htg h59 hrec hx hR c hsum (show 1 ≤ 1 by omega) (Q - (one + 1)) (one + 1) 1000 1000 σ1 τ1 (by omega) (by omega) (by omega) (by omega) hi2
        refine ⟨σ', τ', g1, g2, g3, fun hpar => g5 (f4 ?_), fun w => g5 (f5 w), fun i hn => (g6 i hn).trans (f6 i (fun w => hn w.1))⟩
        have a2 : cntR one R = cntR (one + 1) (fun i => R i ∧ ¬ i = one) + 1 := cN_add (j := one) (by omega) (fun w => w.2.2 rfl) (fun i _ => ⟨fun w => ?_, fun w => ?_⟩)
        · omega
        · by_cases z1 : i = one
          · exact Or.inr z1
          · exact Or.inl ⟨by omega, w.2, z1⟩
        · rcases w with w | w
          · exact ⟨by omega, w.2.1⟩
          · rw [w]; exact ⟨by omega, c⟩
    · rw [t2 c, u2 c, if_neg (fun q => q rfl)]
      simp only [bnd]
      rw [iNT, nS]
      obtain ⟨σ1, τ1, f1, f2, f3, f4, f5, f6⟩ := hrec x R sum odd σ τ hx (fun i hi => by
        have := hR i hi
        have h2 : i ≠ one := fun w => c (by rw [← w]; exact hi)
        exact ⟨by omega, this.2.1, this.2.2⟩) (by omega) hodd hi
      rw [f1, f2]
      simp only [bnd]
      refine ⟨σ1, τ1, rfl, rfl, f3, fun hpar => f4 ?_, f5, f6⟩
      have a2 : cntR (one + 1) R = cntR one R := cN_iff 6 (fun i _ => ⟨fun w => ⟨by omega, w.2⟩, fun w => ⟨?_, w.2⟩⟩)
      · omega
      · by_cases z1 : i = one
        · rw [z1] at w; exact absurd w.2 c
        · omega
