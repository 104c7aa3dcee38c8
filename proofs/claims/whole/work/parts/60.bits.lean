/-! ===== sets of places as bits ===== -/
def rep (x : Int32) (A : Nat → Prop) : Prop := ∃ m, m < 1024 ∧ x = nI m ∧ ∀ i, m.testBit i = true ↔ A i
theorem rep_uniq {x y : Int32} {A B : Nat → Prop} (h1 : rep x A) (h2 : rep y B) (h : ∀ i, A i ↔ B i) : x = y := by
  obtain ⟨m, _, rfl, e1⟩ := h1
  obtain ⟨k, _, rfl, e2⟩ := h2
  have : m = k := Nat.eq_of_testBit_eq (fun i => by
    have := (e1 i).trans ((h i).trans (e2 i).symm)
    cases ha : m.testBit i <;> cases hb : k.testBit i <;> simp_all)
  rw [this]
theorem rep_iff {x : Int32} {A B : Nat → Prop} (h1 : rep x A) (h : ∀ i, A i ↔ B i) : rep x B := by
  obtain ⟨m, a1, a2, a3⟩ := h1
  exact ⟨m, a1, a2, fun i => (a3 i).trans (h i)⟩
theorem rep_inj {x y : Int32} {A B : Nat → Prop} (h1 : rep x A) (h2 : rep y B) (h : x = y) : ∀ i, A i ↔ B i := by
  obtain ⟨m, hm, rfl, e1⟩ := h1
  obtain ⟨k, hk, rfl, e2⟩ := h2
  have := (ja_eq (by omega) (by omega)).1 h
  subst this
  exact fun i => (e1 i).symm.trans (e2 i)
theorem nI_bv (m : Nat) : (nI m).toBitVec = BitVec.ofNat 32 m := rfl
theorem bv_i {x y : Int32} (h : x.toBitVec = y.toBitVec) : x = y := Int32.toBitVec_inj.1 h
theorem t32 {m i : Nat} (h : m < 1024) (hi : 10 ≤ i) : m.testBit i = false := Nat.testBit_lt_two_pow (Nat.lt_of_lt_of_le h (show 1024 ≤ 2 ^ i from by
  have : (2:Nat) ^ 10 ≤ 2 ^ i := Nat.pow_le_pow_right (by omega) hi
  omega))
theorem rep_or {x y : Int32} {A B : Nat → Prop} (h1 : rep x A) (h2 : rep y B) : rep (x ||| y) (fun i => A i ∨ B i) := by
  obtain ⟨m, hm, rfl, e1⟩ := h1
  obtain ⟨k, hk, rfl, e2⟩ := h2
  refine ⟨m ||| k, Nat.or_lt_two_pow (n := 10) hm hk, bv_i ?_, fun i => ?_⟩
  · rw [Int32.toBitVec_or, nI_bv, nI_bv, nI_bv]
    exact BitVec.eq_of_getLsbD_eq (fun i hi => by simp [Nat.testBit_or, hi])
  · rw [Nat.testBit_or, Bool.or_eq_true, e1, e2]
theorem rep_and {x y : Int32} {A B : Nat → Prop} (h1 : rep x A) (h2 : rep y B) : rep (x &&& y) (fun i => A i ∧ B i) := by
  obtain ⟨m, hm, rfl, e1⟩ := h1
  obtain ⟨k, hk, rfl, e2⟩ := h2
  refine ⟨m &&& k, Nat.lt_of_le_of_lt Nat.and_le_left hm, bv_i ?_, fun i => ?_⟩
  · rw [Int32.toBitVec_and, nI_bv, nI_bv, nI_bv]
    exact BitVec.eq_of_getLsbD_eq (fun i hi => by simp [Nat.testBit_and, hi])
  · rw [Nat.testBit_and, Bool.and_eq_true, e1, e2]
theorem rep_dif {x y : Int32} {A B : Nat → Prop} (h1 : rep x A) (h2 : rep y B) : rep (x &&& (y ^^^ (-1))) (fun i => A i ∧ ¬ B i) := by
  obtain ⟨m, hm, rfl, e1⟩ := h1
  obtain ⟨k, hk, rfl, e2⟩ := h2
  refine ⟨m &&& (k ^^^ 1023), Nat.lt_of_le_of_lt Nat.and_le_left hm, bv_i ?_, fun i => ?_⟩
  · rw [Int32.toBitVec_and, Int32.toBitVec_xor, nI_bv, nI_bv, nI_bv]
    have h1 : (-1 : Int32).toBitVec = BitVec.allOnes 32 := by decide
    rw [h1]
    refine BitVec.eq_of_getLsbD_eq (fun i hi => ?_)
    simp only [BitVec.getLsbD_and, BitVec.getLsbD_xor, BitVec.getLsbD_ofNat, BitVec.getLsbD_allOnes, hi, decide_true, Bool.true_and, Nat.testBit_and, Nat.testBit_xor]
    by_cases c : i < 10
    · have : Nat.testBit 1023 i = true := by
        have : ∀ i, i < 10 → Nat.testBit 1023 i = true := by decide
        exact this i c
      rw [this]
    · rw [t32 hm (by omega), Bool.false_and, Bool.false_and]
  · rw [Nat.testBit_and, Bool.and_eq_true, e1, Nat.testBit_xor]
    by_cases c : i < 10
    · have : Nat.testBit 1023 i = true := by
        have : ∀ i, i < 10 → Nat.testBit 1023 i = true := by decide
        exact this i c
      have e2' := e2 i
      rw [this]
      show A i ∧ (k.testBit i ^^ true) = true ↔ A i ∧ ¬ B i
      rw [← e2']
      cases k.testBit i <;> simp
    · have h3 := e1 i
      rw [t32 hm (by omega)] at h3
      exact ⟨fun q => absurd (h3.2 q.1) (by decide), fun q => absurd (h3.2 q.1) (by decide)⟩
theorem rep_0 : rep 0 (fun _ => False) := ⟨0, by omega, rfl, fun i => by simp⟩
theorem rep_bit {q : Nat} (hq : q < 10) : rep (1 <<< (nI q &&& 31)) (fun i => i = q) := by
  refine ⟨2 ^ q, Nat.pow_lt_pow_right (by omega) (show q < 10 from hq), ?_, fun i => ?_⟩
  · have : ∀ q, q < 10 → (1 : Int32) <<< (nI q &&& 31) = nI (2 ^ q) := by decide
    exact this q hq
  · rw [Nat.testBit_two_pow]
    simp [eq_comm]
theorem rep_test {x : Int32} {A : Nat → Prop} (h : rep x A) {q : Nat} (hq : q < 31) : (A q → (x >>> (nI q &&& 31)) &&& 1 = 1) ∧ (¬ A q → (x >>> (nI q &&& 31)) &&& 1 = 0) := by
  obtain ⟨m, hm, rfl, e⟩ := h
  rw [j_bit (by omega) hq]
  have h2 : m / 2 ^ q % 2 < 2 := Nat.mod_lt _ (by omega)
  have e' := e q
  rw [Nat.testBit_eq_decide_div_mod_eq, decide_eq_true_eq] at e'
  refine ⟨fun a => by rw [e'.2 a]; rfl, fun a => ?_⟩
  have : m / 2 ^ q % 2 = 0 := by
    by_cases c : m / 2 ^ q % 2 = 1
    · exact absurd (e'.1 c) a
    · omega
  rw [this]; rfl
theorem rep_lt {x : Int32} {A : Nat → Prop} (h : rep x A) {i : Nat} (hA : A i) : i < 10 := by
  obtain ⟨m, hm, rfl, e⟩ := h
  by_cases c : i < 10
  · exact c
  · have := (e i).2 hA
    rw [t32 hm (by omega)] at this
    exact absurd this (by decide)
theorem rep_has {x : Int32} {A : Nat → Prop} (h : rep x A) {q : Nat} {τ : jT} (hq : q < 31) : (A q → f_X11_has x (nI q) τ = some (1, τ)) ∧ (¬ A q → f_X11_has x (nI q) τ = some (0, τ)) := by
  obtain ⟨t1, t2⟩ := rep_test h hq
  unfold f_X11_has
  exact ⟨fun a => by rw [t1 a, if_neg (by decide)], fun a => by rw [t2 a, if_pos (by decide)]⟩
theorem gV_edge {E : Nat → Nat → Prop} {t k p q : Nat} (hk : k ≤ 50) (h : E p q) (hq : gV E t k q < gF) : gV E t (k + 1) p < gF := by
  have hv : gV E t k q ≤ k := by
    rcases gV_le (E := E) (t := t) k q (by omega) with z | z
    · exact z
    · omega
  have ea := gV_at' (k := k) (p := q) (by omega) hq
  generalize gV E t k q = v at ea hv hq
  have h1 : gV E t (v + 1) p < gF := by
    rw [gV]
    by_cases c : gV E t v p < gF
    · rw [if_pos c]; exact c
    · rw [if_neg c, if_pos ⟨q, h, ea⟩]; unfold gF; omega
  rw [gV_ge (k := v + 1) (by omega) h1]; exact h1
theorem gV_mono {E : Nat → Nat → Prop} {t k j p : Nat} (hj : k ≤ j) (h : gV E t k p < gF) : gV E t j p < gF := by
  rw [gV_ge hj h]; exact h
theorem gV_t {E : Nat → Nat → Prop} {t k : Nat} : gV E t k t < gF := by
  have h : gV E t 0 t = 0 := by unfold gV; rw [if_pos rfl]
  exact gV_mono (k := 0) (by omega) (by rw [h]; decide)
theorem gV_inv {E : Nat → Nat → Prop} {t k p : Nat} (hk : k + 1 ≤ 50) (h : gV E t (k + 1) p < gF) : p = t ∨ ∃ q, E p q ∧ gV E t k q < gF := by
  have hv : gV E t (k + 1) p ≤ k + 1 := by
    rcases gV_le (E := E) (t := t) (k + 1) p (by omega) with z | z
    · exact z
    · omega
  cases e : gV E t (k + 1) p with
  | zero =>
    left
    have h1 := gV_at (k + 1) p 0 (by omega) e (by decide)
    rw [gV] at h1
    by_cases c : p = t
    · exact c
    · rw [if_neg c] at h1; exact absurd h1 (by decide)
  | succ v =>
    right
    obtain ⟨q, h1, h2⟩ := gV_pred (k := k + 1) (by omega) e (by unfold gF; omega)
    exact ⟨q, h1, gV_mono (k := v) (by omega) (by rw [h2]; unfold gF; omega)⟩
theorem gV_0 {E : Nat → Nat → Prop} {t p : Nat} : gV E t 0 p < gF ↔ p = t := by
  rw [gV]
  by_cases c : p = t
  · rw [if_pos c]; exact ⟨fun _ => c, fun _ => by decide⟩
  · rw [if_neg c]; exact ⟨fun q => absurd q (Nat.lt_irrefl _), fun q => absurd q c⟩
