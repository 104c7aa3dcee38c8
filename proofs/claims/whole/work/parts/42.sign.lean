/-! ===== sign ===== -/
theorem sg_s3 (v : Int32) : ((v >>> ((8 * nI 3) &&& 31)).toInt8.toInt32) &&& 255 = ((v.toUInt32 >>> ((nI 24).toUInt32 &&& Int32.toUInt32 31)).toInt32) &&& 255 := by
  rw [sg_8, pk_and (m := 255) (v >>> ((8 * nI 3) &&& 31)) 8 (by decide), pk_and (m := 255) ((v.toUInt32 >>> ((nI 24).toUInt32 &&& Int32.toUInt32 31)).toInt32) 8 (by decide)]
  have h1 := pk_ushr v (nI 24) 24 (by decide)
  have h2 := pk_shr v ((8 * nI 3) &&& 31) 24 (by decide)
  rw [h1]
  congr 1
  have h3 : (v >>> ((8 * nI 3) &&& 31)).toInt = (v >>> ((8 * nI 3) &&& 31)).toBitVec.toInt := rfl
  have h4 : v.toInt = v.toBitVec.toInt := rfl
  rw [h3, h4, Int.shiftRight_eq_div_pow, BitVec.toInt_eq_toNat_cond, BitVec.toInt_eq_toNat_cond] at h2
  have b1 := (v >>> ((8 * nI 3) &&& 31)).toBitVec.isLt
  have b2 := v.toBitVec.isLt
  split at h2 <;> split at h2 <;> omega
theorem sg_s2 (v : Int32) : ((v >>> ((8 * nI 2) &&& 31)).toInt8.toInt32) &&& 255 = ((v.toUInt32 >>> ((nI 16).toUInt32 &&& Int32.toUInt32 31)).toInt32) &&& 255 := by
  rw [sg_8, pk_and (m := 255) (v >>> ((8 * nI 2) &&& 31)) 8 (by decide), pk_and (m := 255) ((v.toUInt32 >>> ((nI 16).toUInt32 &&& Int32.toUInt32 31)).toInt32) 8 (by decide)]
  have h1 := pk_ushr v (nI 16) 16 (by decide)
  have h2 := pk_shr v ((8 * nI 2) &&& 31) 16 (by decide)
  rw [h1]
  congr 1
  have h3 : (v >>> ((8 * nI 2) &&& 31)).toInt = (v >>> ((8 * nI 2) &&& 31)).toBitVec.toInt := rfl
  have h4 : v.toInt = v.toBitVec.toInt := rfl
  rw [h3, h4, Int.shiftRight_eq_div_pow, BitVec.toInt_eq_toNat_cond, BitVec.toInt_eq_toNat_cond] at h2
  have b1 := (v >>> ((8 * nI 2) &&& 31)).toBitVec.isLt
  have b2 := v.toBitVec.isLt
  split at h2 <;> split at h2 <;> omega
theorem sg_s1 (v : Int32) : ((v >>> ((8 * nI 1) &&& 31)).toInt8.toInt32) &&& 255 = ((v.toUInt32 >>> ((nI 8).toUInt32 &&& Int32.toUInt32 31)).toInt32) &&& 255 := by
  rw [sg_8, pk_and (m := 255) (v >>> ((8 * nI 1) &&& 31)) 8 (by decide), pk_and (m := 255) ((v.toUInt32 >>> ((nI 8).toUInt32 &&& Int32.toUInt32 31)).toInt32) 8 (by decide)]
  have h1 := pk_ushr v (nI 8) 8 (by decide)
  have h2 := pk_shr v ((8 * nI 1) &&& 31) 8 (by decide)
  rw [h1]
  congr 1
  have h3 : (v >>> ((8 * nI 1) &&& 31)).toInt = (v >>> ((8 * nI 1) &&& 31)).toBitVec.toInt := rfl
  have h4 : v.toInt = v.toBitVec.toInt := rfl
  rw [h3, h4, Int.shiftRight_eq_div_pow, BitVec.toInt_eq_toNat_cond, BitVec.toInt_eq_toNat_cond] at h2
  have b1 := (v >>> ((8 * nI 1) &&& 31)).toBitVec.isLt
  have b2 := v.toBitVec.isLt
  split at h2 <;> split at h2 <;> omega
theorem sg_s0 (v : Int32) : ((v >>> ((8 * nI 0) &&& 31)).toInt8.toInt32) &&& 255 = ((v.toUInt32 >>> ((nI 0).toUInt32 &&& Int32.toUInt32 31)).toInt32) &&& 255 := by
  rw [sg_8, pk_and (m := 255) (v >>> ((8 * nI 0) &&& 31)) 8 (by decide), pk_and (m := 255) ((v.toUInt32 >>> ((nI 0).toUInt32 &&& Int32.toUInt32 31)).toInt32) 8 (by decide)]
  have h1 := pk_ushr v (nI 0) 0 (by decide)
  have h2 := pk_shr v ((8 * nI 0) &&& 31) 0 (by decide)
  rw [h1]
  congr 1
  have h3 : (v >>> ((8 * nI 0) &&& 31)).toInt = (v >>> ((8 * nI 0) &&& 31)).toBitVec.toInt := rfl
  have h4 : v.toInt = v.toBitVec.toInt := rfl
  rw [h3, h4, Int.shiftRight_eq_div_pow, BitVec.toInt_eq_toNat_cond, BitVec.toInt_eq_toNat_cond] at h2
  have b1 := (v >>> ((8 * nI 0) &&& 31)).toBitVec.isLt
  have b2 := v.toBitVec.isLt
  split at h2 <;> split at h2 <;> omega
/-- four signs more: what stands at the row's end -/
def cSg (σ : jT) (L k : Nat) (x : Int32) : jT := gs (gA σ 2 L (((x.toUInt32 >>> ((nI (8 * k)).toUInt32 &&& Int32.toUInt32 31)).toInt32) &&& 255)) 65 (nI (L + 1))
def mSg (τ : jT) (L k : Nat) (x : Int32) : jT := gA (gs τ 4169 (nI (L + 1))) 71 L (((x >>> ((8 * nI k) &&& 31)).toInt8.toInt32).toInt8.toInt32)
theorem c_sg {σ : jT} {L k f : Nat} {x : Int32} (h : σ.1 65 = nI L) (hL : L < 80) (hk : k < 4) : f_X9_add_b16 (f + 1) x (nI (8 * (k + 1)) + (-8)) σ = f_X9_add_b16 f x (nI (8 * k) + (-8)) (cSg σ L k x) := by
  have e : nI (8 * (k + 1)) + (-8) = nI (8 * k) := by
    rw [show 8 * (k + 1) = 8 * k + 8 by omega, ← ja_add]
    have : (nI 8 : Int32) + (-8) = 0 := by decide
    rw [Int32.add_assoc, this, Int32.add_zero]
  rw [e, f_X9_add_b16, if_neg (nI_pos (by omega)), h, if_pos (ja_in hL (by omega)), nI_clamp (by omega), ← nI_succ]
  rfl
theorem m_sg {τ : jT} {L k f : Nat} {x : Int32} (h : τ.1 4169 = nI L) (hL : L < 80) (hk : k < 4) : f_X11_sign_b20 (f + 1) x (nI k) τ = f_X11_sign_b20 f x (nI k + (-1)) (mSg τ L k x) := by
  rw [f_X11_sign_b20, if_neg (nI_pos (by omega)), h, if_pos (ja_in hL (by omega)), nI_clamp (by omega), ← nI_succ]
  rfl
theorem rT_sg {σ τ : jT} {L k : Nat} {x : Int32} (hL : L < 80) (hk : k < 4) (t : ∀ j, j < L → σ.2 2 j = (τ.2 71 j) &&& 255 ∧ -128 ≤ τ.2 71 j ∧ τ.2 71 j ≤ 127) : ∀ j, j < L + 1 → (cSg σ L k x).2 2 j = ((mSg τ L k x).2 71 j) &&& 255 ∧ -128 ≤ (mSg τ L k x).2 71 j ∧ (mSg τ L k x).2 71 j ≤ 127 := by
  intro j hj
  have e1 : (cSg σ L k x).2 2 j = if j = L then ((x.toUInt32 >>> ((nI (8 * k)).toUInt32 &&& Int32.toUInt32 31)).toInt32) &&& 255 else σ.2 2 j := by
    show (gA σ 2 L _).2 2 j = _
    rw [ju_gA]; rfl
  have e2 : (mSg τ L k x).2 71 j = if j = L then ((x >>> ((8 * nI k) &&& 31)).toInt8.toInt32).toInt8.toInt32 else τ.2 71 j := by
    show (gA (gs τ 4169 (nI (L + 1))) 71 L _).2 71 j = _
    rw [ju_gA]; rfl
  rw [e1, e2]
  by_cases hjL : j = L
  · rw [if_pos hjL, if_pos hjL, sg_88]
    refine ⟨?_, sg_rng _⟩
    rcases (show k = 0 ∨ k = 1 ∨ k = 2 ∨ k = 3 by omega) with rfl | rfl | rfl | rfl
    · exact (sg_s0 x).symm
    · exact (sg_s1 x).symm
    · exact (sg_s2 x).symm
    · exact (sg_s3 x).symm
  · rw [if_neg hjL, if_neg hjL]
    exact t j (by omega)
theorem eq_sign {n P Q : Nat} {σ τ : jT} (hn : n < 1000) (h : rAll n P Q σ τ) (x : Int32) : rEq n (f_X10_sign x σ) (f_X11_sign x τ) := by
  have h0 : rAll n P Q σ (gs τ 4172 0) := rAll_core h rfl rfl
  obtain ⟨hT, hrest⟩ := rAll_step h0
  obtain ⟨L, hL, t1, t2, t3⟩ := hT (by omega)
  have e4 : ∀ y : Int32, y = nI L → y + 4 = nI (L + 4) := fun y hy => by rw [hy]; exact ja_add L 4
  unfold f_X10_sign f_X9_add f_X11_sign
  have t2' : τ.1 4169 = nI L := t2
  rw [e4 _ t1, e4 _ t2']
  by_cases hc : L + 4 ≤ 80
  · rw [if_pos (show nI (L + 4) ≤ (80 : Int32) from nI_le (b := 80) hc (by omega)), if_pos (show nI (L + 4) ≤ (80 : Int32) from nI_le (b := 80) hc (by omega))]
    have c3 := c_sg (x := x) (f := 999) (k := 3) t1 (by omega) (by omega)
    have c2 := c_sg (σ := cSg σ L 3 x) (x := x) (f := 998) (L := L + 1) (k := 2) rfl (by omega) (by omega)
    have c1 := c_sg (σ := cSg (cSg σ L 3 x) (L + 1) 2 x) (x := x) (f := 997) (L := L + 2) (k := 1) rfl (by omega) (by omega)
    have c0 := c_sg (σ := cSg (cSg (cSg σ L 3 x) (L + 1) 2 x) (L + 2) 1 x) (x := x) (f := 996) (L := L + 3) (k := 0) rfl (by omega) (by omega)
    have m3 := m_sg (x := x) (f := 999) (k := 3) t2 (by omega) (by omega)
    have m2 := m_sg (τ := mSg (gs τ 4172 0) L 3 x) (x := x) (f := 998) (L := L + 1) (k := 2) rfl (by omega) (by omega)
    have m1 := m_sg (τ := mSg (mSg (gs τ 4172 0) L 3 x) (L + 1) 2 x) (x := x) (f := 997) (L := L + 2) (k := 1) rfl (by omega) (by omega)
    have m0 := m_sg (τ := mSg (mSg (mSg (gs τ 4172 0) L 3 x) (L + 1) 2 x) (L + 2) 1 x) (x := x) (f := 996) (L := L + 3) (k := 0) rfl (by omega) (by omega)
    have hcc : f_X9_add_b16 1000 x 24 σ = some (nI (L + 4), cSg (cSg (cSg (cSg σ L 3 x) (L + 1) 2 x) (L + 2) 1 x) (L + 3) 0 x) := by
      refine c3.trans (c2.trans (c1.trans (c0.trans ?_)))
      rw [f_X9_add_b16, if_pos (by decide)]
      rfl
    have hmm : f_X11_sign_b20 1000 x 3 (gs τ 4172 0) = some (nI (L + 4), mSg (mSg (mSg (mSg (gs τ 4172 0) L 3 x) (L + 1) 2 x) (L + 2) 1 x) (L + 3) 0 x) := by
      refine m3.trans (m2.trans (m1.trans (m0.trans ?_)))
      rw [f_X11_sign_b20, if_pos (by decide)]
      rfl
    rw [hcc, hmm]
    have r3 := rT_sg (x := x) (k := 3) (by omega) (by omega) t3
    have r2 := rT_sg (x := x) (L := L + 1) (k := 2) (by omega) (by omega) r3
    have r1 := rT_sg (x := x) (L := L + 2) (k := 1) (by omega) (by omega) r2
    have r0 := rT_sg (x := x) (L := L + 3) (k := 0) (by omega) (by omega) r1
    exact ⟨nI (L + 4), _, _, P, Q, rfl, rfl, rfl, fun _ => ⟨L + 4, hc, rfl, rfl, r0⟩, hrest⟩
  · rw [if_neg (show ¬ nI (L + 4) ≤ (80 : Int32) from nI_ge (a := 80) (by omega) (by omega)), if_neg (show ¬ nI (L + 4) ≤ (80 : Int32) from nI_ge (a := 80) (by omega) (by omega))]
    exact rEq_same h rfl rfl rfl rfl rfl
