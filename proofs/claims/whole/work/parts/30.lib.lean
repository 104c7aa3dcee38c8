/-! ===== small facts of numbers and rows ===== -/
theorem ja_gs (σ : jT) (i : Nat) (v : Int32) (j : Nat) : (gs σ i v).1 j = if j = i then v else σ.1 j := rfl
theorem ja_gs2 (σ : jT) (i : Nat) (v : Int32) : (gs σ i v).2 = σ.2 := rfl
theorem ja_gA (σ : jT) (o k : Nat) (v : Int32) (p j : Nat) : (gA σ o k v).2 p j = if p = o ∧ j = k then v else σ.2 p j := rfl
theorem ja_gA1 (σ : jT) (o k : Nat) (v : Int32) : (gA σ o k v).1 = σ.1 := rfl
theorem ja_add (a b : Nat) : nI a + nI b = nI (a + b) := by
  unfold nI
  exact (Int32.ofNat_add a b).symm
theorem ja_lt {a b : Nat} (ha : a < 2 ^ 31) (hb : b < 2 ^ 31) : nI a < nI b ↔ a < b := by
  rw [Int32.lt_iff_toInt_lt, nI_toInt ha, nI_toInt hb]; omega
theorem ja_le {a b : Nat} (ha : a < 2 ^ 31) (hb : b < 2 ^ 31) : nI a ≤ nI b ↔ a ≤ b := by
  rw [Int32.le_iff_toInt_le, nI_toInt ha, nI_toInt hb]; omega
theorem ja_eq {a b : Nat} (ha : a < 2 ^ 31) (hb : b < 2 ^ 31) : nI a = nI b ↔ a = b := by
  constructor
  · intro h
    have := congrArg Int32.toInt h
    rw [nI_toInt ha, nI_toInt hb] at this
    omega
  · intro h; rw [h]
theorem ja_in {k n : Nat} (hk : k < n) (hn : n < 2 ^ 31) : jx_in (nI k) n := by
  rintro (h | h)
  · exact nI_pos (by omega) h
  · rw [nI_clamp (by omega)] at h; omega
theorem ja_of {x : Int32} {n : Nat} (h0 : ¬ x < 0) (hn : x < nI n) (hb : n < 2 ^ 31) : ∃ k, k < n ∧ x = nI k := by
  rw [Int32.lt_iff_toInt_lt] at h0 hn
  rw [nI_toInt hb] at hn
  rw [Int32.toInt_zero] at h0
  refine ⟨x.toInt.toNat, by omega, ?_⟩
  apply Int32.toInt_inj.mp
  rw [nI_toInt (by omega)]
  omega
theorem ja_neg1 {k : Nat} (h : k < 2 ^ 31) : ¬ nI k = -1 := by
  intro e
  have := congrArg Int32.toInt e
  rw [nI_toInt h] at this
  have h2 : (-1 : Int32).toInt = -1 := by decide
  omega
