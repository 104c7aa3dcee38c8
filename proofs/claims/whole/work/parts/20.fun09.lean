/-! ===== methods as functions ===== -/
/-- OfDifferentMinds.count, at ['x', 'int'] -/
def f_X10_count (x1 : Int32) (σ : jT) : Option (Int32 × jT) :=
  if x1 = 0 then
    (f_X3_places σ).bind fun q2 =>
    some (q2.1, q2.2)
  else
  if x1 = 1 then
    (f_X3_riderCount σ).bind fun q4 =>
    some (q4.1, q4.2)
  else
  if x1 = 2 then
    (f_X8_horse σ).bind fun q6 =>
    some (q6.1, q6.2)
  else
  if x1 = 3 then
    (f_X8_first σ).bind fun q8 =>
    some (q8.1, q8.2)
  else
  if x1 = 4 then
    (f_X8_second σ).bind fun q10 =>
    some (q10.1, q10.2)
  else
  if x1 = 5 then
    (f_X8_steps σ).bind fun q12 =>
    some (q12.1, q12.2)
  else
  if x1 = 6 then
    (f_X10_convincedOnes σ).bind fun q14 =>
    some (q14.1, q14.2)
  else
  if x1 = 7 then
    (f_X3_inns σ).bind fun q16 =>
    some (q16.1, q16.2)
  else
  if x1 = 8 then
    some ((σ.1 12), σ)
  else
  if x1 = 9 then
    (f_X2_size σ).bind fun q19 =>
    some (q19.1, q19.2)
  else
  if x1 = 10 then
    (f_X6_size σ).bind fun q21 =>
    some (q21.1, q21.2)
  else
  if x1 = 11 then
    (f_X9_length σ).bind fun q23 =>
    some (q23.1, q23.2)
  else
  some ((-100), σ)
theorem t_X10_count {S : jS} (hS : jCok S) {d : Nat} {Q : Option Value → jx_H → Prop} {x1 : Int32} {σ : jT} (h : jw (f_X10_count x1 σ) (fun q => Q (some (.int q.1)) (jh S q.2))) : jx_Sp (d + 3) 196 [.ref 0, .int x1] (jh S σ) Q := by
  refine ⟨jm_i196, jm_at196, rfl, rfl, ?_⟩
  show jx_Ex _ jm_l196 jm_b196_0 [.ref 0, .int x1] [] _ _
  unfold f_X10_count at h
  refine xo_0 rfl ?_
  refine xo_67 ?_
  refine xo_swc (tb := jm_b196_64) rfl (fun hc1 => ?_) (fun hc1 => ?_)
  · replace h := jw_pos hc1 h
    refine xo_2 rfl ?_
    refine xc_33 (i := 1) (q := 3) hS ly0 rfl (xc_P hS (by decide)) ?_
    refine xo_49 (st' := []) rfl rfl (xc_ly hS ly3) rfl (Nat.le_of_ble_eq_true rfl) ?_
    refine t_X3_places hS ?_
    refine jw_mono (jw_bind h) (fun q2 h => ?_)
    show jx_Ex _ _ _ _ [.int q2.1] (jh S q2.2) _
    replace h := jw_some h
    exact xo_69 h
  replace h := jw_neg hc1 h
  refine xo_swc (tb := jm_b196_72) rfl (fun hc3 => ?_) (fun hc3 => ?_)
  · replace h := jw_pos hc3 h
    refine xo_2 rfl ?_
    refine xc_33 (i := 1) (q := 3) hS ly0 rfl (xc_P hS (by decide)) ?_
    refine xo_49 (st' := []) rfl rfl (xc_ly hS ly3) rfl (Nat.le_of_ble_eq_true rfl) ?_
    refine t_X3_riderCount hS ?_
    refine jw_mono (jw_bind h) (fun q4 h => ?_)
    show jx_Ex _ _ _ _ [.int q4.1] (jh S q4.2) _
    replace h := jw_some h
    exact xo_69 h
  replace h := jw_neg hc3 h
  refine xo_swc (tb := jm_b196_80) rfl (fun hc5 => ?_) (fun hc5 => ?_)
  · replace h := jw_pos hc5 h
    refine xo_2 rfl ?_
    refine xc_33 (i := 3) (q := 12) hS ly0 rfl (xc_P hS (by decide)) ?_
    refine xo_49 (st' := []) rfl rfl (xc_ly hS ly12) rfl (Nat.le_of_ble_eq_true rfl) ?_
    refine t_X8_horse hS ?_
    refine jw_mono (jw_bind h) (fun q6 h => ?_)
    show jx_Ex _ _ _ _ [.int q6.1] (jh S q6.2) _
    replace h := jw_some h
    exact xo_69 h
  replace h := jw_neg hc5 h
  refine xo_swc (tb := jm_b196_88) rfl (fun hc7 => ?_) (fun hc7 => ?_)
  · replace h := jw_pos hc7 h
    refine xo_2 rfl ?_
    refine xc_33 (i := 3) (q := 12) hS ly0 rfl (xc_P hS (by decide)) ?_
    refine xo_49 (st' := []) rfl rfl (xc_ly hS ly12) rfl (Nat.le_of_ble_eq_true rfl) ?_
    refine t_X8_first hS ?_
    refine jw_mono (jw_bind h) (fun q8 h => ?_)
    show jx_Ex _ _ _ _ [.int q8.1] (jh S q8.2) _
    replace h := jw_some h
    exact xo_69 h
  replace h := jw_neg hc7 h
  refine xo_swc (tb := jm_b196_96) rfl (fun hc9 => ?_) (fun hc9 => ?_)
  · replace h := jw_pos hc9 h
    refine xo_2 rfl ?_
    refine xc_33 (i := 3) (q := 12) hS ly0 rfl (xc_P hS (by decide)) ?_
    refine xo_49 (st' := []) rfl rfl (xc_ly hS ly12) rfl (Nat.le_of_ble_eq_true rfl) ?_
    refine t_X8_second hS ?_
    refine jw_mono (jw_bind h) (fun q10 h => ?_)
    show jx_Ex _ _ _ _ [.int q10.1] (jh S q10.2) _
    replace h := jw_some h
    exact xo_69 h
  replace h := jw_neg hc9 h
  refine xo_swc (tb := jm_b196_104) rfl (fun hc11 => ?_) (fun hc11 => ?_)
  · replace h := jw_pos hc11 h
    refine xo_2 rfl ?_
    refine xc_33 (i := 3) (q := 12) hS ly0 rfl (xc_P hS (by decide)) ?_
    refine xo_49 (st' := []) rfl rfl (xc_ly hS ly12) rfl (Nat.le_of_ble_eq_true rfl) ?_
    refine t_X8_steps hS ?_
    refine jw_mono (jw_bind h) (fun q12 h => ?_)
    show jx_Ex _ _ _ _ [.int q12.1] (jh S q12.2) _
    replace h := jw_some h
    exact xo_69 h
  replace h := jw_neg hc11 h
  refine xo_swc (tb := jm_b196_112) rfl (fun hc13 => ?_) (fun hc13 => ?_)
  · replace h := jw_pos hc13 h
    refine xo_2 rfl ?_
    refine xo_49 (st' := []) rfl rfl (xc_ly hS ly0) rfl (Nat.le_of_ble_eq_true rfl) ?_
    refine t_X10_convincedOnes hS ?_
    refine jw_mono (jw_bind h) (fun q14 h => ?_)
    show jx_Ex _ _ _ _ [.int q14.1] (jh S q14.2) _
    replace h := jw_some h
    exact xo_69 h
  replace h := jw_neg hc13 h
  refine xo_swc (tb := jm_b196_117) rfl (fun hc15 => ?_) (fun hc15 => ?_)
  · replace h := jw_pos hc15 h
    refine xo_2 rfl ?_
    refine xc_33 (i := 1) (q := 3) hS ly0 rfl (xc_P hS (by decide)) ?_
    refine xo_49 (st' := []) rfl rfl (xc_ly hS ly3) rfl (Nat.le_of_ble_eq_true rfl) ?_
    refine t_X3_inns hS ?_
    refine jw_mono (jw_bind h) (fun q16 h => ?_)
    show jx_Ex _ _ _ _ [.int q16.1] (jh S q16.2) _
    replace h := jw_some h
    exact xo_69 h
  replace h := jw_neg hc15 h
  refine xo_swc (tb := jm_b196_125) rfl (fun hc17 => ?_) (fun hc17 => ?_)
  · replace h := jw_pos hc17 h
    refine xo_2 rfl ?_
    refine xc_32 (i := 12) (v := (σ.1 12)) hS ly0 rfl ⟨Nat.le_of_ble_eq_true rfl, Nat.le_of_ble_eq_true rfl⟩ rfl ?_
    replace h := jw_some h
    exact xo_69 h
  replace h := jw_neg hc17 h
  refine xo_swc (tb := jm_b196_130) rfl (fun hc18 => ?_) (fun hc18 => ?_)
  · replace h := jw_pos hc18 h
    refine xo_2 rfl ?_
    refine xc_33 (i := 4) (q := 14) hS ly0 rfl (xc_P hS (by decide)) ?_
    refine xo_49 (st' := []) rfl rfl (xc_ly hS ly14) rfl (Nat.le_of_ble_eq_true rfl) ?_
    refine t_X2_size hS ?_
    refine jw_mono (jw_bind h) (fun q19 h => ?_)
    show jx_Ex _ _ _ _ [.int q19.1] (jh S q19.2) _
    replace h := jw_some h
    exact xo_69 h
  replace h := jw_neg hc18 h
  refine xo_swc (tb := jm_b196_138) rfl (fun hc20 => ?_) (fun hc20 => ?_)
  · replace h := jw_pos hc20 h
    refine xo_2 rfl ?_
    refine xc_33 (i := 5) (q := 47) hS ly0 rfl (xc_P hS (by decide)) ?_
    refine xo_49 (st' := []) rfl rfl (xc_ly hS ly47) rfl (Nat.le_of_ble_eq_true rfl) ?_
    refine t_X6_size hS ?_
    refine jw_mono (jw_bind h) (fun q21 h => ?_)
    show jx_Ex _ _ _ _ [.int q21.1] (jh S q21.2) _
    replace h := jw_some h
    exact xo_69 h
  replace h := jw_neg hc20 h
  refine xo_swc (tb := jm_b196_146) rfl (fun hc22 => ?_) (fun hc22 => ?_)
  · replace h := jw_pos hc22 h
    refine xo_2 rfl ?_
    refine xc_33 (i := 0) (q := 1) hS ly0 rfl (xc_P hS (by decide)) ?_
    refine xo_49 (st' := []) rfl rfl (xc_ly hS ly1) rfl (Nat.le_of_ble_eq_true rfl) ?_
    refine t_X9_length hS ?_
    refine jw_mono (jw_bind h) (fun q23 h => ?_)
    show jx_Ex _ _ _ _ [.int q23.1] (jh S q23.2) _
    replace h := jw_some h
    exact xo_69 h
  replace h := jw_neg hc22 h
  refine xo_swn (tb := jm_b196_154) rfl ?_
  refine xo_9 ?_
  replace h := jw_some h
  exact xo_69 h
/-- OfDifferentMindsModel.thrown, at ['m'] K -/
def f_X11_thrown (σ : jT) : Option (Int32 × jT) :=
  some ((σ.1 4172), σ)
theorem t_X11_thrown {S : jS} (hS : jMok S) {d : Nat} {Q : Option Value → jx_H → Prop} {rd : Value} {σ : jT} (h : jw (f_X11_thrown σ) (fun q => Q (some (.int q.1)) (jh (jSrd S rd) q.2))) : jx_Sp (d) 201 [.ref 65] (jh (jSrd S rd) σ) Q := by
  refine ⟨jm_i201, jm_at201, rfl, rfl, ?_⟩
  show jx_Ex _ jm_l201 jm_b201_0 [.ref 65] [] _ _
  unfold f_X11_thrown at h
  refine xo_2 rfl ?_
  refine xm_32 (i := 4172) (v := (σ.1 4172)) (jSrd_ok hS rd) ly65 rfl ⟨Nat.le_of_ble_eq_true rfl, Nat.le_of_ble_eq_true rfl⟩ rfl ?_
  replace h := jw_some h
  exact xo_69 h
/-- OfDifferentMindsModel.sign, at ['m', 'int'] K -/
def f_X11_sign_b20 : Nat → Int32 → Int32 → jT → Option (Int32 × jT)
  | 0, _, _, _ => none
  | n + 1, x1, x2, σ =>
    if x2 < 0 then
      some ((σ.1 4169), σ)
    else
      if jx_in (σ.1 4169) 80 then
      f_X11_sign_b20 n x1 (x2 + (-1)) (gA (gs σ 4169 ((σ.1 4169) + 1)) 71 (σ.1 4169).toNatClampNeg (((x1 >>> ((8 * x2) &&& 31)).toInt8.toInt32).toInt8.toInt32))
      else none
def f_X11_sign (x1 : Int32) (σ : jT) : Option (Int32 × jT) :=
  if ((σ.1 4169) + 4) ≤ 80 then
    f_X11_sign_b20 1000 x1 3 (gs σ 4172 0)
  else
    some ((-1), (gs σ 4172 0))
theorem t_X11_sign_b20 {S : jS} (hS : jMok S) {d : Nat} {Q : Option Value → jx_H → Prop} {rd : Value} : ∀ (n : Nat) {x1 : Int32} {x2 : Int32} {σ : jT}, jw (f_X11_sign_b20 n x1 x2 σ) (fun q => Q (some (.int q.1)) (jh (jSrd S rd) q.2)) → jx_Ex (d) jm_l211 jm_b211_20 [.ref 65, .int x1, .int x2] [] (jh (jSrd S rd) σ) Q := by
  intro n
  induction n with
  | zero => intro x1 x2 σ h; exact jw_none h
  | succ n ih =>
    intro x1 x2 σ h
    rw [f_X11_sign_b20] at h
    refine xo_0 rfl ?_
    refine xo_57 (t := jm_b211_53) rfl (fun hc1 => ?_) (fun hc1 => ?_)
    · replace h := jw_pos hc1 h
      refine xo_2 rfl ?_
      refine xm_32 (i := 4169) (v := (σ.1 4169)) (jSrd_ok hS rd) ly65 rfl ⟨Nat.le_of_ble_eq_true rfl, Nat.le_of_ble_eq_true rfl⟩ rfl ?_
      replace h := jw_some h
      exact xo_69 h
    · replace h := jw_neg hc1 h
      refine xo_2 rfl ?_
      refine xm_33 (i := 4168) (q := 71) (jSrd_ok hS rd) ly65 rfl (xm_P (jSrd_ok hS rd) (by decide)) ?_
      refine xo_2 rfl ?_
      refine xo_28r ?_
      refine xm_32 (i := 4169) (v := (σ.1 4169)) (jSrd_ok hS rd) ly65 rfl ⟨Nat.le_of_ble_eq_true rfl, Nat.le_of_ble_eq_true rfl⟩ rfl ?_
      refine xo_30 ?_
      refine xo_8 ?_
      refine xo_14 ?_
      refine xm_34 (i := 4169) (jSrd_ok hS rd) ly65 rfl ⟨Nat.le_of_ble_eq_true rfl, Nat.le_of_ble_eq_true rfl⟩ ?_
      refine xo_0 rfl ?_
      refine xo_9 ?_
      refine xo_0 rfl ?_
      refine xo_16 ?_
      refine xo_24 ?_
      refine xo_26 ?_
      obtain ⟨hi2, h⟩ := jw_chk h
      refine xm_42b (j := (σ.1 4169).toNatClampNeg) (jSrd_ok hS rd) ly71 ⟨Nat.le_of_ble_eq_true rfl, Nat.le_of_ble_eq_true rfl⟩ hi2 rfl ?_
      refine xo_13 (ls' := [.ref 65, .int x1, .int (x2 + (-1))]) rfl rfl ?_
      refine xo_54 (t := jm_b211_20) rfl ?_
      exact ih h
theorem t_X11_sign {S : jS} (hS : jMok S) {d : Nat} {Q : Option Value → jx_H → Prop} {rd : Value} {x1 : Int32} {σ : jT} (h : jw (f_X11_sign x1 σ) (fun q => Q (some (.int q.1)) (jh (jSrd S rd) q.2))) : jx_Sp (d) 211 [.ref 65, .int x1] (jh (jSrd S rd) σ) Q := by
  refine ⟨jm_i211, jm_at211, rfl, rfl, ?_⟩
  show jx_Ex _ jm_l211 jm_b211_0 [.ref 65, .int x1, .retAddr 0] [] _ _
  unfold f_X11_sign at h
  refine xo_2 rfl ?_
  refine xo_8 ?_
  refine xm_34 (i := 4172) (jSrd_ok hS rd) ly65 rfl ⟨Nat.le_of_ble_eq_true rfl, Nat.le_of_ble_eq_true rfl⟩ ?_
  refine xo_2 rfl ?_
  refine xm_32 (i := 4169) (v := (σ.1 4169)) (jSrd_ok hS rd) ly65 rfl ⟨Nat.le_of_ble_eq_true rfl, Nat.le_of_ble_eq_true rfl⟩ rfl ?_
  refine xo_8 ?_
  refine xo_14 ?_
  refine xo_9 ?_
  refine xo_66 (t := jm_b211_18) rfl (fun hc1 => ?_) (fun hc1 => ?_)
  · replace h := jw_pos hc1 h
    refine xo_8 ?_
    refine xo_4 (ls' := [.ref 65, .int x1, .int 3]) rfl ?_
    exact t_X11_sign_b20 hS 1000 h
  · replace h := jw_neg hc1 h
    refine xo_8 ?_
    replace h := jw_some h
    exact xo_69 h
/-- OfDifferentMindsModel.in, at ['int', 'int', 'int'] K -/
def f_X11_in (x0 : Int32) (x1 : Int32) (x2 : Int32) (σ : jT) : Option (Int32 × jT) :=
  if x0 < x1 then
    some (0, σ)
  else
    if x2 < x0 then
      some (0, σ)
    else
      some (1, σ)
theorem t_X11_in {S : jS} (hS : jMok S) {d : Nat} {Q : Option Value → jx_H → Prop} {rd : Value} {x0 : Int32} {x1 : Int32} {x2 : Int32} {σ : jT} (h : jw (f_X11_in x0 x1 x2 σ) (fun q => Q (some (.int q.1)) (jh (jSrd S rd) q.2))) : jx_Sp (d) 202 [.int x0, .int x1, .int x2] (jh (jSrd S rd) σ) Q := by
  refine ⟨jm_i202, jm_at202, rfl, rfl, ?_⟩
  show jx_Ex _ jm_l202 jm_b202_0 [.int x0, .int x1, .int x2] [] _ _
  unfold f_X11_in at h
  refine xo_0 rfl ?_
  refine xo_0 rfl ?_
  refine xo_63 (t := jm_b202_14) rfl (fun hc1 => ?_) (fun hc1 => ?_)
  · replace h := jw_pos hc1 h
    refine xo_8 ?_
    replace h := jw_some h
    exact xo_70 (by decide) h
  · replace h := jw_neg hc1 h
    refine xo_0 rfl ?_
    refine xo_0 rfl ?_
    refine xo_65 (t := jm_b202_14) rfl (fun hc2 => ?_) (fun hc2 => ?_)
    · replace h := jw_pos hc2 h
      refine xo_8 ?_
      replace h := jw_some h
      exact xo_70 (by decide) h
    · replace h := jw_neg hc2 h
      refine xo_8 ?_
      refine xo_54 (t := jm_b202_15) rfl ?_
      replace h := jw_some h
      exact xo_70 (by decide) h
/-- OfDifferentMindsModel.end, at ['m', 'int'] K -/
def f_X11_end (x1 : Int32) (σ : jT) : Option (Int32 × jT) :=
  (f_X11_in x1 0 (σ.1 4169) (gs σ 4172 0)).bind fun q1 =>
  if ¬ q1.1 = 0 then
    some (1, (gs q1.2 4169 x1))
  else
    some (0, q1.2)
theorem t_X11_end {S : jS} (hS : jMok S) {d : Nat} {Q : Option Value → jx_H → Prop} {rd : Value} {x1 : Int32} {σ : jT} (h : jw (f_X11_end x1 σ) (fun q => Q (some (.int q.1)) (jh (jSrd S rd) q.2))) : jx_Sp (d + 1) 212 [.ref 65, .int x1] (jh (jSrd S rd) σ) Q := by
  refine ⟨jm_i212, jm_at212, rfl, rfl, ?_⟩
  show jx_Ex _ jm_l212 jm_b212_0 [.ref 65, .int x1] [] _ _
  unfold f_X11_end at h
  refine xo_2 rfl ?_
  refine xo_8 ?_
  refine xm_34 (i := 4172) (jSrd_ok hS rd) ly65 rfl ⟨Nat.le_of_ble_eq_true rfl, Nat.le_of_ble_eq_true rfl⟩ ?_
  refine xo_0 rfl ?_
  refine xo_8 ?_
  refine xo_2 rfl ?_
  refine xm_32 (i := 4169) (v := (σ.1 4169)) (jSrd_ok hS rd) ly65 rfl ⟨Nat.le_of_ble_eq_true rfl, Nat.le_of_ble_eq_true rfl⟩ rfl ?_
  refine xo_50 (st' := []) rfl rfl rfl (Nat.le_of_ble_eq_true rfl) ?_
  refine t_X11_in hS ?_
  refine jw_mono (jw_bind h) (fun q1 h => ?_)
  show jx_Ex _ _ _ _ [.int q1.1] (jh (jSrd S rd) q1.2) _
  refine xo_56 (t := jm_b212_19) rfl (fun hc2 => ?_) (fun hc2 => ?_)
  · replace h := jw_pos hc2 h
    refine xo_2 rfl ?_
    refine xo_0 rfl ?_
    refine xm_34 (i := 4169) (jSrd_ok hS rd) ly65 rfl ⟨Nat.le_of_ble_eq_true rfl, Nat.le_of_ble_eq_true rfl⟩ ?_
    refine xo_8 ?_
    replace h := jw_some h
    exact xo_70 (by decide) h
  · replace h := jw_neg hc2 h
    refine xo_8 ?_
    replace h := jw_some h
    exact xo_70 (by decide) h
/-- OfDifferentMindsModel.begin, at ['m', 'm.text', 'int', 'int'] B -/
def f_X11_begin_71 (x2 : Int32) (x3 : Int32) (σ : jT) : Option (Int32 × jT) :=
  some (0, (gs (gs (gs (gs σ 4174 x2) 4175 x3) 4176 0) 4177 (-1)))
theorem t_X11_begin_71 {S : jS} (hS : jMok S) {d : Nat} {Q : Option Value → jx_H → Prop} {rd : Value} {x2 : Int32} {x3 : Int32} {σ : jT} (h : jw (f_X11_begin_71 x2 x3 σ) (fun q => Q none (jh (jSrd S (.ref 71)) q.2))) : jx_Sp (d) 213 [.ref 65, .ref 71, .int x2, .int x3] (jh (jSrd S rd) σ) Q := by
  refine ⟨jm_i213, jm_at213, rfl, rfl, ?_⟩
  show jx_Ex _ jm_l213 jm_b213_0 [.ref 65, .ref 71, .int x2, .int x3] [] _ _
  unfold f_X11_begin_71 at h
  refine xo_2 rfl ?_
  refine xo_2 rfl ?_
  refine xm_36 (i := 4173) hS ly65 rfl rfl ?_
  refine xo_2 rfl ?_
  refine xo_0 rfl ?_
  refine xm_34 (i := 4174) (jSrd_ok hS (.ref 71)) ly65 rfl ⟨Nat.le_of_ble_eq_true rfl, Nat.le_of_ble_eq_true rfl⟩ ?_
  refine xo_2 rfl ?_
  refine xo_0 rfl ?_
  refine xm_34 (i := 4175) (jSrd_ok hS (.ref 71)) ly65 rfl ⟨Nat.le_of_ble_eq_true rfl, Nat.le_of_ble_eq_true rfl⟩ ?_
  refine xo_2 rfl ?_
  refine xo_8 ?_
  refine xm_34 (i := 4176) (jSrd_ok hS (.ref 71)) ly65 rfl ⟨Nat.le_of_ble_eq_true rfl, Nat.le_of_ble_eq_true rfl⟩ ?_
  refine xo_2 rfl ?_
  refine xo_8 ?_
  refine xm_34 (i := 4177) (jSrd_ok hS (.ref 71)) ly65 rfl ⟨Nat.le_of_ble_eq_true rfl, Nat.le_of_ble_eq_true rfl⟩ ?_
  replace h := jw_some h
  exact xo_71 h
/-- OfDifferentMindsModel.fine, at ['m'] K -/
def f_X11_fine (σ : jT) : Option (Int32 × jT) :=
  if ¬ (σ.1 4177) = (-1) then
    some (0, σ)
  else
    some (1, σ)
theorem t_X11_fine {S : jS} (hS : jMok S) {d : Nat} {Q : Option Value → jx_H → Prop} {rd : Value} {σ : jT} (h : jw (f_X11_fine σ) (fun q => Q (some (.int q.1)) (jh (jSrd S rd) q.2))) : jx_Sp (d) 215 [.ref 65] (jh (jSrd S rd) σ) Q := by
  refine ⟨jm_i215, jm_at215, rfl, rfl, ?_⟩
  show jx_Ex _ jm_l215 jm_b215_0 [.ref 65] [] _ _
  unfold f_X11_fine at h
  refine xo_2 rfl ?_
  refine xm_32 (i := 4177) (v := (σ.1 4177)) (jSrd_ok hS rd) ly65 rfl ⟨Nat.le_of_ble_eq_true rfl, Nat.le_of_ble_eq_true rfl⟩ rfl ?_
  refine xo_8 ?_
  refine xo_62 (t := jm_b215_12) rfl (fun hc1 => ?_) (fun hc1 => ?_)
  · replace h := jw_pos hc1 h
    refine xo_8 ?_
    replace h := jw_some h
    exact xo_70 (by decide) h
  · replace h := jw_neg hc1 h
    refine xo_8 ?_
    refine xo_54 (t := jm_b215_13) rfl ?_
    replace h := jw_some h
    exact xo_70 (by decide) h
/-- OfDifferentMindsModel.empty, at ['m'] K -/
def f_X11_empty (σ : jT) : Option (Int32 × jT) :=
  some (0, (gA (gA (gA (gA σ 66 0 0) 66 1 (-1)) 66 2 (-1)) 66 3 0))
theorem t_X11_empty {S : jS} (hS : jMok S) {d : Nat} {Q : Option Value → jx_H → Prop} {rd : Value} {σ : jT} (h : jw (f_X11_empty σ) (fun q => Q none (jh (jSrd S rd) q.2))) : jx_Sp (d) 200 [.ref 65] (jh (jSrd S rd) σ) Q := by
  refine ⟨jm_i200, jm_at200, rfl, rfl, ?_⟩
  show jx_Ex _ jm_l200 jm_b200_0 [.ref 65] [] _ _
  unfold f_X11_empty at h
  refine xo_2 rfl ?_
  refine xm_33 (i := 4160) (q := 66) (jSrd_ok hS rd) ly65 rfl (xm_P (jSrd_ok hS rd) (by decide)) ?_
  refine xo_8 ?_
  refine xo_8 ?_
  refine xm_41 (j := 0) (jSrd_ok hS rd) ly66 ⟨Nat.le_of_ble_eq_true rfl, Nat.le_of_ble_eq_true rfl⟩ (by decide) (by decide) ?_
  refine xo_2 rfl ?_
  refine xm_33 (i := 4160) (q := 66) (jSrd_ok hS rd) ly65 rfl (xm_P (jSrd_ok hS rd) (by decide)) ?_
  refine xo_8 ?_
  refine xo_8 ?_
  refine xm_41 (j := 1) (jSrd_ok hS rd) ly66 ⟨Nat.le_of_ble_eq_true rfl, Nat.le_of_ble_eq_true rfl⟩ (by decide) (by decide) ?_
  refine xo_2 rfl ?_
  refine xm_33 (i := 4160) (q := 66) (jSrd_ok hS rd) ly65 rfl (xm_P (jSrd_ok hS rd) (by decide)) ?_
  refine xo_8 ?_
  refine xo_8 ?_
  refine xm_41 (j := 2) (jSrd_ok hS rd) ly66 ⟨Nat.le_of_ble_eq_true rfl, Nat.le_of_ble_eq_true rfl⟩ (by decide) (by decide) ?_
  refine xo_2 rfl ?_
  refine xm_33 (i := 4160) (q := 66) (jSrd_ok hS rd) ly65 rfl (xm_P (jSrd_ok hS rd) (by decide)) ?_
  refine xo_8 ?_
  refine xo_8 ?_
  refine xm_41 (j := 3) (jSrd_ok hS rd) ly66 ⟨Nat.le_of_ble_eq_true rfl, Nat.le_of_ble_eq_true rfl⟩ (by decide) (by decide) ?_
  replace h := jw_some h
  exact xo_71 h
/-- OfDifferentMindsModel.fault, at ['m', 'int'] K -/
def f_X11_fault (x1 : Int32) (σ : jT) : Option (Int32 × jT) :=
  (f_X11_fine σ).bind fun q1 =>
  if q1.1 = 0 then
    some (0, q1.2)
  else
    some (0, (gs q1.2 4177 x1))
theorem t_X11_fault {S : jS} (hS : jMok S) {d : Nat} {Q : Option Value → jx_H → Prop} {rd : Value} {x1 : Int32} {σ : jT} (h : jw (f_X11_fault x1 σ) (fun q => Q none (jh (jSrd S rd) q.2))) : jx_Sp (d + 1) 216 [.ref 65, .int x1] (jh (jSrd S rd) σ) Q := by
  refine ⟨jm_i216, jm_at216, rfl, rfl, ?_⟩
  show jx_Ex _ jm_l216 jm_b216_0 [.ref 65, .int x1] [] _ _
  unfold f_X11_fault at h
  refine xo_2 rfl ?_
  refine xo_49 (st' := []) rfl rfl (xm_ly (jSrd_ok hS rd) ly65) rfl (Nat.le_of_ble_eq_true rfl) ?_
  refine t_X11_fine hS ?_
  refine jw_mono (jw_bind h) (fun q1 h => ?_)
  show jx_Ex _ _ _ _ [.int q1.1] (jh (jSrd S rd) q1.2) _
  refine xo_55 (t := jm_b216_12) rfl (fun hc2 => ?_) (fun hc2 => ?_)
  · replace h := jw_pos hc2 h
    replace h := jw_some h
    exact xo_71 h
  · replace h := jw_neg hc2 h
    refine xo_2 rfl ?_
    refine xo_0 rfl ?_
    refine xm_34 (i := 4177) (jSrd_ok hS rd) ly65 rfl ⟨Nat.le_of_ble_eq_true rfl, Nat.le_of_ble_eq_true rfl⟩ ?_
    replace h := jw_some h
    exact xo_71 h
/-- OfDifferentMindsModel.here, at ['m'] T -/
def f_X11_here_T (σ : jT) : Option (Int32 × jT) :=
  if (σ.1 4174) ≤ (σ.1 4176) then
    some ((-1), σ)
  else
    if (σ.1 4175) ≤ (σ.1 4176) then
      some ((-1), σ)
    else
      if jx_in (σ.1 4176) 80 then
      some (((σ.2 71 (σ.1 4176).toNatClampNeg) &&& 255), σ)
      else none
theorem t_X11_here_T {S : jS} (hS : jMok S) {d : Nat} {Q : Option Value → jx_H → Prop} {σ : jT} (h : jw (f_X11_here_T σ) (fun q => Q (some (.int q.1)) (jh (jSrd S (.ref 71)) q.2))) : jx_Sp (d) 214 [.ref 65] (jh (jSrd S (.ref 71)) σ) Q := by
  refine ⟨jm_i214, jm_at214, rfl, rfl, ?_⟩
  show jx_Ex _ jm_l214 jm_b214_0 [.ref 65] [] _ _
  unfold f_X11_here_T at h
  refine xo_2 rfl ?_
  refine xm_32 (i := 4176) (v := (σ.1 4176)) (jSrd_ok hS (.ref 71)) ly65 rfl ⟨Nat.le_of_ble_eq_true rfl, Nat.le_of_ble_eq_true rfl⟩ rfl ?_
  refine xo_2 rfl ?_
  refine xm_32 (i := 4174) (v := (σ.1 4174)) (jSrd_ok hS (.ref 71)) ly65 rfl ⟨Nat.le_of_ble_eq_true rfl, Nat.le_of_ble_eq_true rfl⟩ rfl ?_
  refine xo_64 (t := jm_b214_38) rfl (fun hc1 => ?_) (fun hc1 => ?_)
  · replace h := jw_pos hc1 h
    refine xo_8 ?_
    replace h := jw_some h
    exact xo_69 h
  · replace h := jw_neg hc1 h
    refine xo_2 rfl ?_
    refine xm_32 (i := 4176) (v := (σ.1 4176)) (jSrd_ok hS (.ref 71)) ly65 rfl ⟨Nat.le_of_ble_eq_true rfl, Nat.le_of_ble_eq_true rfl⟩ rfl ?_
    refine xo_2 rfl ?_
    refine xm_32 (i := 4175) (v := (σ.1 4175)) (jSrd_ok hS (.ref 71)) ly65 rfl ⟨Nat.le_of_ble_eq_true rfl, Nat.le_of_ble_eq_true rfl⟩ rfl ?_
    refine xo_64 (t := jm_b214_38) rfl (fun hc2 => ?_) (fun hc2 => ?_)
    · replace h := jw_pos hc2 h
      refine xo_8 ?_
      replace h := jw_some h
      exact xo_69 h
    · replace h := jw_neg hc2 h
      refine xo_2 rfl ?_
      refine xm_33 (i := 4173) (q := 71) (jSrd_ok hS (.ref 71)) ly65 rfl (jSrd_rd _) ?_
      refine xo_2 rfl ?_
      refine xm_32 (i := 4176) (v := (σ.1 4176)) (jSrd_ok hS (.ref 71)) ly65 rfl ⟨Nat.le_of_ble_eq_true rfl, Nat.le_of_ble_eq_true rfl⟩ rfl ?_
      obtain ⟨hi3, h⟩ := jw_chk h
      refine xm_39 (j := (σ.1 4176).toNatClampNeg) (v := (σ.2 71 (σ.1 4176).toNatClampNeg)) (jSrd_ok hS (.ref 71)) (Or.inl ly71) ⟨Nat.le_of_ble_eq_true rfl, Nat.le_of_ble_eq_true rfl⟩ hi3 rfl rfl ?_
      refine xo_10 ?_
      refine xo_20 ?_
      refine xo_54 (t := jm_b214_39) rfl ?_
      replace h := jw_some h
      exact xo_69 h
/-- OfDifferentMindsModel.passes, at ['m', 'int'] T -/
def f_X11_passes_T (x1 : Int32) (σ : jT) : Option (Int32 × jT) :=
  (f_X11_fine σ).bind fun q1 =>
  if q1.1 = 0 then
    some (0, q1.2)
  else
    (f_X11_here_T q1.2).bind fun q3 =>
    if q3.1 = x1 then
      some (1, (gs q3.2 4176 ((q3.2.1 4176) + 1)))
    else
      some (0, q3.2)
theorem t_X11_passes_T {S : jS} (hS : jMok S) {d : Nat} {Q : Option Value → jx_H → Prop} {x1 : Int32} {σ : jT} (h : jw (f_X11_passes_T x1 σ) (fun q => Q (some (.int q.1)) (jh (jSrd S (.ref 71)) q.2))) : jx_Sp (d + 1) 217 [.ref 65, .int x1] (jh (jSrd S (.ref 71)) σ) Q := by
  refine ⟨jm_i217, jm_at217, rfl, rfl, ?_⟩
  show jx_Ex _ jm_l217 jm_b217_0 [.ref 65, .int x1] [] _ _
  unfold f_X11_passes_T at h
  refine xo_2 rfl ?_
  refine xo_49 (st' := []) rfl rfl (xm_ly (jSrd_ok hS (.ref 71)) ly65) rfl (Nat.le_of_ble_eq_true rfl) ?_
  refine t_X11_fine hS ?_
  refine jw_mono (jw_bind h) (fun q1 h => ?_)
  show jx_Ex _ _ _ _ [.int q1.1] (jh (jSrd S (.ref 71)) q1.2) _
  refine xo_55 (t := jm_b217_15) rfl (fun hc2 => ?_) (fun hc2 => ?_)
  · replace h := jw_pos hc2 h
    refine xo_8 ?_
    replace h := jw_some h
    exact xo_70 (by decide) h
  · replace h := jw_neg hc2 h
    refine xo_2 rfl ?_
    refine xo_49 (st' := []) rfl rfl (xm_ly (jSrd_ok hS (.ref 71)) ly65) rfl (Nat.le_of_ble_eq_true rfl) ?_
    refine t_X11_here_T hS ?_
    refine jw_mono (jw_bind h) (fun q3 h => ?_)
    show jx_Ex _ _ _ _ [.int q3.1] (jh (jSrd S (.ref 71)) q3.2) _
    refine xo_0 rfl ?_
    refine xo_61 (t := jm_b217_17) rfl (fun hc4 => ?_) (fun hc4 => ?_)
    · replace h := jw_pos hc4 h
      refine xo_2 rfl ?_
      refine xo_28r ?_
      refine xm_32 (i := 4176) (v := (q3.2.1 4176)) (jSrd_ok hS (.ref 71)) ly65 rfl ⟨Nat.le_of_ble_eq_true rfl, Nat.le_of_ble_eq_true rfl⟩ rfl ?_
      refine xo_8 ?_
      refine xo_14 ?_
      refine xm_34 (i := 4176) (jSrd_ok hS (.ref 71)) ly65 rfl ⟨Nat.le_of_ble_eq_true rfl, Nat.le_of_ble_eq_true rfl⟩ ?_
      refine xo_8 ?_
      replace h := jw_some h
      exact xo_70 (by decide) h
    · replace h := jw_neg hc4 h
      refine xo_8 ?_
      replace h := jw_some h
      exact xo_70 (by decide) h
/-- OfDifferentMindsModel.readPlace, at ['m', 'int'] T -/
def f_X11_readPlace_T_b128 (x1 : Int32) (σ : jT) : Option (Int32 × jT) :=
  (f_X11_passes_T 33 σ).bind fun q1 =>
  if q1.1 = 0 then
    some (0, q1.2)
  else
    some (0, (gs q1.2 4181 ((q1.2.1 4181) ||| (1 <<< (x1 &&& 31)))))
def f_X11_readPlace_T_b111 (x1 : Int32) (σ : jT) : Option (Int32 × jT) :=
  if jx_in x1 10 then
  if ¬ (σ.2 73 x1.toNatClampNeg) = 0 then
    f_X11_readPlace_T_b128 x1 σ
  else
    (f_X11_fault (σ.1 4176) σ).bind fun q3 =>
    f_X11_readPlace_T_b128 x1 q3.2
  else none
def f_X11_readPlace_T_b16 : Nat → Int32 → jT → Option (Int32 × jT)
  | 0, _, _ => none
  | n + 1, x1, σ =>
    (f_X11_fine σ).bind fun q1 =>
    if q1.1 = 0 then
      f_X11_readPlace_T_b111 x1 q1.2
    else
      if jx_in x1 10 then
      if 3 ≤ (q1.2.2 73 x1.toNatClampNeg) then
        f_X11_readPlace_T_b111 x1 q1.2
      else
        (f_X11_here_T q1.2).bind fun q5 =>
        (f_X11_in q5.1 97 106 q5.2).bind fun q6 =>
        if q6.1 = 0 then
          f_X11_readPlace_T_b111 x1 q6.2
        else
          (f_X11_here_T q6.2).bind fun q8 =>
          if jx_in ((3 * x1) + (q6.2.2 73 x1.toNatClampNeg)) 30 then
          if jx_in ((3 * x1) + (q8.2.2 73 x1.toNatClampNeg)) 30 then
          f_X11_readPlace_T_b16 n x1 (gs (gA (gA (gA q8.2 74 ((3 * x1) + (q6.2.2 73 x1.toNatClampNeg)).toNatClampNeg (q8.1 - 97)) 75 ((3 * x1) + (q8.2.2 73 x1.toNatClampNeg)).toNatClampNeg (q8.2.1 4176)) 73 x1.toNatClampNeg ((q8.2.2 73 x1.toNatClampNeg) + 1)) 4176 ((q8.2.1 4176) + 1))
          else none
          else none
      else none
def f_X11_readPlace_T (x1 : Int32) (σ : jT) : Option (Int32 × jT) :=
  if jx_in x1 10 then
  (f_X11_passes_T 45 (gA σ 73 x1.toNatClampNeg 0)).bind fun q2 =>
  if ¬ q2.1 = 0 then
    f_X11_readPlace_T_b128 x1 q2.2
  else
    f_X11_readPlace_T_b16 1000 x1 q2.2
  else none
theorem t_X11_readPlace_T_b128 {S : jS} (hS : jMok S) {d : Nat} {Q : Option Value → jx_H → Prop} {x1 : Int32} {σ : jT} (h : jw (f_X11_readPlace_T_b128 x1 σ) (fun q => Q none (jh (jSrd S (.ref 71)) q.2))) : jx_Ex (d + 2) jm_l221 jm_b221_128 [.ref 65, .int x1] [] (jh (jSrd S (.ref 71)) σ) Q := by
  unfold f_X11_readPlace_T_b128 at h
  refine xo_2 rfl ?_
  refine xo_9 ?_
  refine xo_49 (st' := []) rfl rfl (xm_ly (jSrd_ok hS (.ref 71)) ly65) rfl (Nat.le_of_ble_eq_true rfl) ?_
  refine t_X11_passes_T hS ?_
  refine jw_mono (jw_bind h) (fun q1 h => ?_)
  show jx_Ex _ _ _ _ [.int q1.1] (jh (jSrd S (.ref 71)) q1.2) _
  refine xo_55 (t := jm_b221_149) rfl (fun hc2 => ?_) (fun hc2 => ?_)
  · replace h := jw_pos hc2 h
    replace h := jw_some h
    exact xo_71 h
  · replace h := jw_neg hc2 h
    refine xo_2 rfl ?_
    refine xo_28r ?_
    refine xm_32 (i := 4181) (v := (q1.2.1 4181)) (jSrd_ok hS (.ref 71)) ly65 rfl ⟨Nat.le_of_ble_eq_true rfl, Nat.le_of_ble_eq_true rfl⟩ rfl ?_
    refine xo_8 ?_
    refine xo_0 rfl ?_
    refine xo_23 ?_
    refine xo_21 ?_
    refine xm_34 (i := 4181) (jSrd_ok hS (.ref 71)) ly65 rfl ⟨Nat.le_of_ble_eq_true rfl, Nat.le_of_ble_eq_true rfl⟩ ?_
    replace h := jw_some h
    exact xo_71 h
theorem t_X11_readPlace_T_b111 {S : jS} (hS : jMok S) {d : Nat} {Q : Option Value → jx_H → Prop} {x1 : Int32} {σ : jT} (h : jw (f_X11_readPlace_T_b111 x1 σ) (fun q => Q none (jh (jSrd S (.ref 71)) q.2))) : jx_Ex (d + 2) jm_l221 jm_b221_111 [.ref 65, .int x1] [] (jh (jSrd S (.ref 71)) σ) Q := by
  unfold f_X11_readPlace_T_b111 at h
  refine xo_2 rfl ?_
  refine xm_33 (i := 4178) (q := 73) (jSrd_ok hS (.ref 71)) ly65 rfl (xm_P (jSrd_ok hS (.ref 71)) (by decide)) ?_
  refine xo_0 rfl ?_
  obtain ⟨hi1, h⟩ := jw_chk h
  refine xm_38 (j := x1.toNatClampNeg) (v := (σ.2 73 x1.toNatClampNeg)) (jSrd_ok hS (.ref 71)) ly73 ⟨Nat.le_of_ble_eq_true rfl, Nat.le_of_ble_eq_true rfl⟩ hi1 rfl rfl ?_
  refine xo_56 (t := jm_b221_128) rfl (fun hc2 => ?_) (fun hc2 => ?_)
  · replace h := jw_pos hc2 h
    exact t_X11_readPlace_T_b128 hS h
  · replace h := jw_neg hc2 h
    refine xo_2 rfl ?_
    refine xo_2 rfl ?_
    refine xm_32 (i := 4176) (v := (σ.1 4176)) (jSrd_ok hS (.ref 71)) ly65 rfl ⟨Nat.le_of_ble_eq_true rfl, Nat.le_of_ble_eq_true rfl⟩ rfl ?_
    refine xo_49 (st' := []) rfl rfl (xm_ly (jSrd_ok hS (.ref 71)) ly65) rfl (Nat.le_of_ble_eq_true rfl) ?_
    refine t_X11_fault hS ?_
    refine jw_mono (jw_bind h) (fun q3 h => ?_)
    show jx_Ex _ _ _ _ [] (jh (jSrd S (.ref 71)) q3.2) _
    exact t_X11_readPlace_T_b128 hS h
theorem t_X11_readPlace_T_b16 {S : jS} (hS : jMok S) {d : Nat} {Q : Option Value → jx_H → Prop} : ∀ (n : Nat) {x1 : Int32} {σ : jT}, jw (f_X11_readPlace_T_b16 n x1 σ) (fun q => Q none (jh (jSrd S (.ref 71)) q.2)) → jx_Ex (d + 2) jm_l221 jm_b221_16 [.ref 65, .int x1] [] (jh (jSrd S (.ref 71)) σ) Q := by
  intro n
  induction n with
  | zero => intro x1 σ h; exact jw_none h
  | succ n ih =>
    intro x1 σ h
    rw [f_X11_readPlace_T_b16] at h
    refine xo_2 rfl ?_
    refine xo_49 (st' := []) rfl rfl (xm_ly (jSrd_ok hS (.ref 71)) ly65) rfl (Nat.le_of_ble_eq_true rfl) ?_
    refine t_X11_fine hS ?_
    refine jw_mono (jw_bind h) (fun q1 h => ?_)
    show jx_Ex _ _ _ _ [.int q1.1] (jh (jSrd S (.ref 71)) q1.2) _
    refine xo_55 (t := jm_b221_111) rfl (fun hc2 => ?_) (fun hc2 => ?_)
    · replace h := jw_pos hc2 h
      exact t_X11_readPlace_T_b111 hS h
    · replace h := jw_neg hc2 h
      refine xo_2 rfl ?_
      refine xm_33 (i := 4178) (q := 73) (jSrd_ok hS (.ref 71)) ly65 rfl (xm_P (jSrd_ok hS (.ref 71)) (by decide)) ?_
      refine xo_0 rfl ?_
      obtain ⟨hi3, h⟩ := jw_chk h
      refine xm_38 (j := x1.toNatClampNeg) (v := (q1.2.2 73 x1.toNatClampNeg)) (jSrd_ok hS (.ref 71)) ly73 ⟨Nat.le_of_ble_eq_true rfl, Nat.le_of_ble_eq_true rfl⟩ hi3 rfl rfl ?_
      refine xo_8 ?_
      refine xo_64 (t := jm_b221_111) rfl (fun hc4 => ?_) (fun hc4 => ?_)
      · replace h := jw_pos hc4 h
        exact t_X11_readPlace_T_b111 hS h
      · replace h := jw_neg hc4 h
        refine xo_2 rfl ?_
        refine xo_49 (st' := []) rfl rfl (xm_ly (jSrd_ok hS (.ref 71)) ly65) rfl (Nat.le_of_ble_eq_true rfl) ?_
        refine t_X11_here_T hS ?_
        refine jw_mono (jw_bind h) (fun q5 h => ?_)
        show jx_Ex _ _ _ _ [.int q5.1] (jh (jSrd S (.ref 71)) q5.2) _
        refine xo_9 ?_
        refine xo_9 ?_
        refine xo_50 (st' := []) rfl rfl rfl (Nat.le_of_ble_eq_true rfl) ?_
        refine t_X11_in hS ?_
        refine jw_mono (jw_bind h) (fun q6 h => ?_)
        show jx_Ex _ _ _ _ [.int q6.1] (jh (jSrd S (.ref 71)) q6.2) _
        refine xo_55 (t := jm_b221_111) rfl (fun hc7 => ?_) (fun hc7 => ?_)
        · replace h := jw_pos hc7 h
          exact t_X11_readPlace_T_b111 hS h
        · replace h := jw_neg hc7 h
          refine xo_2 rfl ?_
          refine xm_33 (i := 4179) (q := 74) (jSrd_ok hS (.ref 71)) ly65 rfl (xm_P (jSrd_ok hS (.ref 71)) (by decide)) ?_
          refine xo_8 ?_
          refine xo_0 rfl ?_
          refine xo_16 ?_
          refine xo_2 rfl ?_
          refine xm_33 (i := 4178) (q := 73) (jSrd_ok hS (.ref 71)) ly65 rfl (xm_P (jSrd_ok hS (.ref 71)) (by decide)) ?_
          refine xo_0 rfl ?_
          refine xm_38 (j := x1.toNatClampNeg) (v := (q6.2.2 73 x1.toNatClampNeg)) (jSrd_ok hS (.ref 71)) ly73 ⟨Nat.le_of_ble_eq_true rfl, Nat.le_of_ble_eq_true rfl⟩ hi3 rfl rfl ?_
          refine xo_14 ?_
          refine xo_2 rfl ?_
          refine xo_49 (st' := [.int ((3 * x1) + (q6.2.2 73 x1.toNatClampNeg)), .ref 74]) rfl rfl (xm_ly (jSrd_ok hS (.ref 71)) ly65) rfl (Nat.le_of_ble_eq_true rfl) ?_
          refine t_X11_here_T hS ?_
          refine jw_mono (jw_bind h) (fun q8 h => ?_)
          show jx_Ex _ _ _ _ [.int q8.1, .int ((3 * x1) + (q6.2.2 73 x1.toNatClampNeg)), .ref 74] (jh (jSrd S (.ref 71)) q8.2) _
          refine xo_9 ?_
          refine xo_15 ?_
          obtain ⟨hi9, h⟩ := jw_chk h
          refine xm_41 (j := ((3 * x1) + (q6.2.2 73 x1.toNatClampNeg)).toNatClampNeg) (jSrd_ok hS (.ref 71)) ly74 ⟨Nat.le_of_ble_eq_true rfl, Nat.le_of_ble_eq_true rfl⟩ hi9 rfl ?_
          refine xo_2 rfl ?_
          refine xm_33 (i := 4180) (q := 75) (jSrd_ok hS (.ref 71)) ly65 rfl (xm_P (jSrd_ok hS (.ref 71)) (by decide)) ?_
          refine xo_8 ?_
          refine xo_0 rfl ?_
          refine xo_16 ?_
          refine xo_2 rfl ?_
          refine xm_33 (i := 4178) (q := 73) (jSrd_ok hS (.ref 71)) ly65 rfl (xm_P (jSrd_ok hS (.ref 71)) (by decide)) ?_
          refine xo_0 rfl ?_
          refine xm_38 (j := x1.toNatClampNeg) (v := (q8.2.2 73 x1.toNatClampNeg)) (jSrd_ok hS (.ref 71)) ly73 ⟨Nat.le_of_ble_eq_true rfl, Nat.le_of_ble_eq_true rfl⟩ hi3 rfl rfl ?_
          refine xo_14 ?_
          refine xo_2 rfl ?_
          refine xm_32 (i := 4176) (v := (q8.2.1 4176)) (jSrd_ok hS (.ref 71)) ly65 rfl ⟨Nat.le_of_ble_eq_true rfl, Nat.le_of_ble_eq_true rfl⟩ rfl ?_
          obtain ⟨hi10, h⟩ := jw_chk h
          refine xm_41 (j := ((3 * x1) + (q8.2.2 73 x1.toNatClampNeg)).toNatClampNeg) (jSrd_ok hS (.ref 71)) ly75 ⟨Nat.le_of_ble_eq_true rfl, Nat.le_of_ble_eq_true rfl⟩ hi10 rfl ?_
          refine xo_2 rfl ?_
          refine xm_33 (i := 4178) (q := 73) (jSrd_ok hS (.ref 71)) ly65 rfl (xm_P (jSrd_ok hS (.ref 71)) (by decide)) ?_
          refine xo_0 rfl ?_
          refine xo_29 ?_
          refine xm_38 (j := x1.toNatClampNeg) (v := (q8.2.2 73 x1.toNatClampNeg)) (jSrd_ok hS (.ref 71)) ly73 ⟨Nat.le_of_ble_eq_true rfl, Nat.le_of_ble_eq_true rfl⟩ hi3 rfl rfl ?_
          refine xo_8 ?_
          refine xo_14 ?_
          refine xm_41 (j := x1.toNatClampNeg) (jSrd_ok hS (.ref 71)) ly73 ⟨Nat.le_of_ble_eq_true rfl, Nat.le_of_ble_eq_true rfl⟩ hi3 rfl ?_
          refine xo_2 rfl ?_
          refine xo_28r ?_
          refine xm_32 (i := 4176) (v := (q8.2.1 4176)) (jSrd_ok hS (.ref 71)) ly65 rfl ⟨Nat.le_of_ble_eq_true rfl, Nat.le_of_ble_eq_true rfl⟩ rfl ?_
          refine xo_8 ?_
          refine xo_14 ?_
          refine xm_34 (i := 4176) (jSrd_ok hS (.ref 71)) ly65 rfl ⟨Nat.le_of_ble_eq_true rfl, Nat.le_of_ble_eq_true rfl⟩ ?_
          refine xo_54 (t := jm_b221_16) rfl ?_
          exact ih h
theorem t_X11_readPlace_T {S : jS} (hS : jMok S) {d : Nat} {Q : Option Value → jx_H → Prop} {x1 : Int32} {σ : jT} (h : jw (f_X11_readPlace_T x1 σ) (fun q => Q none (jh (jSrd S (.ref 71)) q.2))) : jx_Sp (d + 2) 221 [.ref 65, .int x1] (jh (jSrd S (.ref 71)) σ) Q := by
  refine ⟨jm_i221, jm_at221, rfl, rfl, ?_⟩
  show jx_Ex _ jm_l221 jm_b221_0 [.ref 65, .int x1] [] _ _
  unfold f_X11_readPlace_T at h
  refine xo_2 rfl ?_
  refine xm_33 (i := 4178) (q := 73) (jSrd_ok hS (.ref 71)) ly65 rfl (xm_P (jSrd_ok hS (.ref 71)) (by decide)) ?_
  refine xo_0 rfl ?_
  refine xo_8 ?_
  obtain ⟨hi1, h⟩ := jw_chk h
  refine xm_41 (j := x1.toNatClampNeg) (jSrd_ok hS (.ref 71)) ly73 ⟨Nat.le_of_ble_eq_true rfl, Nat.le_of_ble_eq_true rfl⟩ hi1 rfl ?_
  refine xo_2 rfl ?_
  refine xo_9 ?_
  refine xo_49 (st' := []) rfl rfl (xm_ly (jSrd_ok hS (.ref 71)) ly65) rfl (Nat.le_of_ble_eq_true rfl) ?_
  refine t_X11_passes_T hS ?_
  refine jw_mono (jw_bind h) (fun q2 h => ?_)
  show jx_Ex _ _ _ _ [.int q2.1] (jh (jSrd S (.ref 71)) q2.2) _
  refine xo_56 (t := jm_b221_128) rfl (fun hc3 => ?_) (fun hc3 => ?_)
  · replace h := jw_pos hc3 h
    exact t_X11_readPlace_T_b128 hS h
  · replace h := jw_neg hc3 h
    exact t_X11_readPlace_T_b16 hS 1000 h
/-- OfDifferentMindsModel.roads, at ['m'] U -/
def f_X11_roads_b293 : Nat → Int32 → Int32 → jT → Option (Int32 × jT)
  | 0, _, _, _ => none
  | n + 1, x1, x3, σ =>
    if 2 ≤ x3 then
      some (x1, σ)
    else
      if jx_in x3 2 then
      f_X11_roads_b293 n x1 (x3 + 1) (gA σ 93 x3.toNatClampNeg (0 &&& 1))
      else none
def f_X11_roads_b251 (k209 : Int32 → Int32 → Int32 → jT → Option (Int32 × jT)) (x1 : Int32) (x3 : Int32) (x4 : Int32) (s0 : Int32) (s1 : Int32) (σ : jT) : Option (Int32 × jT) :=
  if jx_in s1 30 then
  k209 x1 x3 (x4 + 1) (gA σ 68 s1.toNatClampNeg s0)
  else none
def f_X11_roads_b209 (k189 : Int32 → Int32 → jT → Option (Int32 × jT)) : Nat → Int32 → Int32 → Int32 → jT → Option (Int32 × jT)
  | 0, _, _, _, _ => none
  | n + 1, x1, x3, x4, σ =>
    if 3 ≤ x4 then
      k189 x1 (x3 + 1) σ
    else
      if jx_in x3 10 then
      if (σ.2 73 x3.toNatClampNeg) ≤ x4 then
        f_X11_roads_b251 (f_X11_roads_b209 k189 n) x1 x3 x4 (-1) ((3 * x3) + x4) σ
      else
        if jx_in ((3 * x3) + x4) 30 then
        f_X11_roads_b251 (f_X11_roads_b209 k189 n) x1 x3 x4 (σ.2 74 ((3 * x3) + x4).toNatClampNeg) ((3 * x3) + x4) σ
        else none
      else none
def f_X11_roads_b189 : Nat → Int32 → Int32 → jT → Option (Int32 × jT)
  | 0, _, _, _ => none
  | n + 1, x1, x3, σ =>
    if x1 ≤ x3 then
      (f_X11_empty (gs (gs σ 4164 (σ.1 4181)) 4165 0)).bind fun q2 =>
      f_X11_roads_b293 1000 x1 0 (gs (gs q2.2 4203 0) 4189 0)
    else
      if jx_in x3 10 then
      f_X11_roads_b209 (f_X11_roads_b189 n) 1000 x1 x3 0 (gA σ 67 x3.toNatClampNeg (σ.2 73 x3.toNatClampNeg))
      else none
def f_X11_roads_b168 (x1 : Int32) (σ : jT) : Option (Int32 × jT) :=
  (f_X11_fine σ).bind fun q1 =>
  if ¬ q1.1 = 0 then
    f_X11_roads_b189 1000 x1 0 (gs q1.2 4161 x1)
  else
    some (((-1) - (q1.2.1 4177)), q1.2)
def f_X11_roads_b156 (k115 : Int32 → Int32 → Int32 → jT → Option (Int32 × jT)) (x1 : Int32) (x3 : Int32) (x4 : Int32) (σ : jT) : Option (Int32 × jT) :=
  k115 x1 x3 (x4 + 1) σ
def f_X11_roads_b115 (k100 : Int32 → Int32 → jT → Option (Int32 × jT)) : Nat → Int32 → Int32 → Int32 → jT → Option (Int32 × jT)
  | 0, _, _, _, _ => none
  | n + 1, x1, x3, x4, σ =>
    if jx_in x3 10 then
    if (σ.2 73 x3.toNatClampNeg) ≤ x4 then
      k100 x1 (x3 + 1) σ
    else
      if jx_in ((3 * x3) + x4) 30 then
      if (σ.2 74 ((3 * x3) + x4).toNatClampNeg) < x1 then
        f_X11_roads_b156 (f_X11_roads_b115 k100 n) x1 x3 x4 σ
      else
        (f_X11_fault (σ.2 75 ((3 * x3) + x4).toNatClampNeg) σ).bind fun q5 =>
        f_X11_roads_b156 (f_X11_roads_b115 k100 n) x1 x3 x4 q5.2
      else none
    else none
def f_X11_roads_b100 : Nat → Int32 → Int32 → jT → Option (Int32 × jT)
  | 0, _, _, _ => none
  | n + 1, x1, x3, σ =>
    if x1 ≤ x3 then
      f_X11_roads_b168 x1 σ
    else
      (f_X11_fine σ).bind fun q2 =>
      if q2.1 = 0 then
        f_X11_roads_b168 x1 q2.2
      else
        f_X11_roads_b115 (f_X11_roads_b100 n) 1000 x1 x3 0 q2.2
def f_X11_roads_b98 (x1 : Int32) (σ : jT) : Option (Int32 × jT) :=
  f_X11_roads_b100 1000 x1 0 σ
def f_X11_roads_b79 (x1 : Int32) (σ : jT) : Option (Int32 × jT) :=
  if (σ.1 4174) ≤ (σ.1 4176) then
    f_X11_roads_b98 x1 σ
  else
    (f_X11_fault (σ.1 4176) σ).bind fun q2 =>
    f_X11_roads_b98 x1 q2.2
def f_X11_roads_b66 (k33 : Int32 → Int32 → jT → Option (Int32 × jT)) (x1 : Int32) (σ : jT) : Option (Int32 × jT) :=
  (f_X11_passes_T 59 σ).bind fun q1 =>
  k33 (x1 + 1) q1.1 q1.2
def f_X11_roads_b33 : Nat → Int32 → Int32 → jT → Option (Int32 × jT)
  | 0, _, _, _ => none
  | n + 1, x1, x2, σ =>
    if x2 = 0 then
      f_X11_roads_b79 x1 σ
    else
      (f_X11_fine σ).bind fun q2 =>
      if q2.1 = 0 then
        f_X11_roads_b79 x1 q2.2
      else
        if ¬ x1 = 10 then
          (f_X11_readPlace_T x1 q2.2).bind fun q5 =>
          f_X11_roads_b66 (f_X11_roads_b33 n) x1 q5.2
        else
          (f_X11_fault (q2.2.1 4176) q2.2).bind fun q6 =>
          f_X11_roads_b66 (f_X11_roads_b33 n) x1 q6.2
def f_X11_roads (σ : jT) : Option (Int32 × jT) :=
  (f_X11_begin_71 (σ.1 4169) 76 (gs σ 4172 0)).bind fun q1 =>
  f_X11_roads_b33 1000 0 1 (gs (gs q1.2 4169 0) 4181 0)
theorem t_X11_roads_b293 {S : jS} (hS : jMok S) {d : Nat} {Q : Option Value → jx_H → Prop} : ∀ (n : Nat) {x1 : Int32} {x3 : Int32} {w2 : Value} {w4 : Value} {σ : jT}, jw (f_X11_roads_b293 n x1 x3 σ) (fun q => ∀ rd : Value, Q (some (.int q.1)) (jh (jSrd S rd) q.2)) → jx_Ex (d + 3) jm_l222 jm_b222_293 [.ref 65, .int x1, w2, .int x3, w4] [] (jh (jSrd S (.ref 71)) σ) Q := by
  intro n
  induction n with
  | zero => intro x1 x3 w2 w4 σ h; exact jw_none h
  | succ n ih =>
    intro x1 x3 w2 w4 σ h
    rw [f_X11_roads_b293] at h
    refine xo_0 rfl ?_
    refine xo_8 ?_
    refine xo_64 (t := jm_b222_311) rfl (fun hc1 => ?_) (fun hc1 => ?_)
    · replace h := jw_pos hc1 h
      refine xo_0 rfl ?_
      replace h := jw_some h
      exact xo_69 (h (.ref 71))
    · replace h := jw_neg hc1 h
      refine xo_2 rfl ?_
      refine xm_33 (i := 4210) (q := 93) (jSrd_ok hS (.ref 71)) ly65 rfl (xm_P (jSrd_ok hS (.ref 71)) (by decide)) ?_
      refine xo_0 rfl ?_
      refine xo_8 ?_
      obtain ⟨hi2, h⟩ := jw_chk h
      refine xm_42z (j := x3.toNatClampNeg) (jSrd_ok hS (.ref 71)) ly93 ⟨Nat.le_of_ble_eq_true rfl, Nat.le_of_ble_eq_true rfl⟩ hi2 rfl ?_
      refine xo_13 (ls' := [.ref 65, .int x1, w2, .int (x3 + 1), w4]) rfl rfl ?_
      refine xo_54 (t := jm_b222_293) rfl ?_
      exact ih h
theorem t_X11_roads_b251 {S : jS} (hS : jMok S) {d : Nat} {Q : Option Value → jx_H → Prop} {k209 : Int32 → Int32 → Int32 → jT → Option (Int32 × jT)} (hk209 : ∀ {x1 : Int32} {x3 : Int32} {x4 : Int32} {w2 : Value} {σ : jT}, jw (k209 x1 x3 x4 σ) (fun q => ∀ rd : Value, Q (some (.int q.1)) (jh (jSrd S rd) q.2)) → jx_Ex (d + 3) jm_l222 jm_b222_209 [.ref 65, .int x1, w2, .int x3, .int x4] [] (jh (jSrd S (.ref 71)) σ) Q) {x1 : Int32} {x3 : Int32} {x4 : Int32} {s0 : Int32} {s1 : Int32} {w2 : Value} {σ : jT} (h : jw (f_X11_roads_b251 k209 x1 x3 x4 s0 s1 σ) (fun q => ∀ rd : Value, Q (some (.int q.1)) (jh (jSrd S rd) q.2))) : jx_Ex (d + 3) jm_l222 jm_b222_251 [.ref 65, .int x1, w2, .int x3, .int x4] [.int s0, .int s1, .ref 68] (jh (jSrd S (.ref 71)) σ) Q := by
  unfold f_X11_roads_b251 at h
  obtain ⟨hi1, h⟩ := jw_chk h
  refine xm_41 (j := s1.toNatClampNeg) (jSrd_ok hS (.ref 71)) ly68 ⟨Nat.le_of_ble_eq_true rfl, Nat.le_of_ble_eq_true rfl⟩ hi1 rfl ?_
  refine xo_13 (ls' := [.ref 65, .int x1, w2, .int x3, .int (x4 + 1)]) rfl rfl ?_
  refine xo_54 (t := jm_b222_209) rfl ?_
  exact hk209 h
theorem t_X11_roads_b209 {S : jS} (hS : jMok S) {d : Nat} {Q : Option Value → jx_H → Prop} {k189 : Int32 → Int32 → jT → Option (Int32 × jT)} (hk189 : ∀ {x1 : Int32} {x3 : Int32} {w2 : Value} {w4 : Value} {σ : jT}, jw (k189 x1 x3 σ) (fun q => ∀ rd : Value, Q (some (.int q.1)) (jh (jSrd S rd) q.2)) → jx_Ex (d + 3) jm_l222 jm_b222_189 [.ref 65, .int x1, w2, .int x3, w4] [] (jh (jSrd S (.ref 71)) σ) Q) : ∀ (n : Nat) {x1 : Int32} {x3 : Int32} {x4 : Int32} {w2 : Value} {σ : jT}, jw (f_X11_roads_b209 k189 n x1 x3 x4 σ) (fun q => ∀ rd : Value, Q (some (.int q.1)) (jh (jSrd S rd) q.2)) → jx_Ex (d + 3) jm_l222 jm_b222_209 [.ref 65, .int x1, w2, .int x3, .int x4] [] (jh (jSrd S (.ref 71)) σ) Q := by
  intro n
  induction n with
  | zero => intro x1 x3 x4 w2 σ h; exact jw_none h
  | succ n ih =>
    intro x1 x3 x4 w2 σ h
    rw [f_X11_roads_b209] at h
    refine xo_1 rfl ?_
    refine xo_8 ?_
    refine xo_64 (t := jm_b222_258) rfl (fun hc1 => ?_) (fun hc1 => ?_)
    · replace h := jw_pos hc1 h
      refine xo_13 (ls' := [.ref 65, .int x1, w2, .int (x3 + 1), .int x4]) rfl rfl ?_
      refine xo_54 (t := jm_b222_189) rfl ?_
      exact hk189 h
    · replace h := jw_neg hc1 h
      refine xo_2 rfl ?_
      refine xm_33 (i := 4163) (q := 68) (jSrd_ok hS (.ref 71)) ly65 rfl (xm_P (jSrd_ok hS (.ref 71)) (by decide)) ?_
      refine xo_8 ?_
      refine xo_0 rfl ?_
      refine xo_16 ?_
      refine xo_1 rfl ?_
      refine xo_14 ?_
      refine xo_1 rfl ?_
      refine xo_2 rfl ?_
      refine xm_33 (i := 4178) (q := 73) (jSrd_ok hS (.ref 71)) ly65 rfl (xm_P (jSrd_ok hS (.ref 71)) (by decide)) ?_
      refine xo_0 rfl ?_
      obtain ⟨hi2, h⟩ := jw_chk h
      refine xm_38 (j := x3.toNatClampNeg) (v := (σ.2 73 x3.toNatClampNeg)) (jSrd_ok hS (.ref 71)) ly73 ⟨Nat.le_of_ble_eq_true rfl, Nat.le_of_ble_eq_true rfl⟩ hi2 rfl rfl ?_
      refine xo_64 (t := jm_b222_250) rfl (fun hc3 => ?_) (fun hc3 => ?_)
      · replace h := jw_pos hc3 h
        refine xo_8 ?_
        exact t_X11_roads_b251 hS ih h
      · replace h := jw_neg hc3 h
        refine xo_2 rfl ?_
        refine xm_33 (i := 4179) (q := 74) (jSrd_ok hS (.ref 71)) ly65 rfl (xm_P (jSrd_ok hS (.ref 71)) (by decide)) ?_
        refine xo_8 ?_
        refine xo_0 rfl ?_
        refine xo_16 ?_
        refine xo_1 rfl ?_
        refine xo_14 ?_
        obtain ⟨hi4, h⟩ := jw_chk h
        refine xm_38 (j := ((3 * x3) + x4).toNatClampNeg) (v := (σ.2 74 ((3 * x3) + x4).toNatClampNeg)) (jSrd_ok hS (.ref 71)) ly74 ⟨Nat.le_of_ble_eq_true rfl, Nat.le_of_ble_eq_true rfl⟩ hi4 rfl rfl ?_
        refine xo_54 (t := jm_b222_251) rfl ?_
        exact t_X11_roads_b251 hS ih h
theorem t_X11_roads_b189 {S : jS} (hS : jMok S) {d : Nat} {Q : Option Value → jx_H → Prop} : ∀ (n : Nat) {x1 : Int32} {x3 : Int32} {w2 : Value} {w4 : Value} {σ : jT}, jw (f_X11_roads_b189 n x1 x3 σ) (fun q => ∀ rd : Value, Q (some (.int q.1)) (jh (jSrd S rd) q.2)) → jx_Ex (d + 3) jm_l222 jm_b222_189 [.ref 65, .int x1, w2, .int x3, w4] [] (jh (jSrd S (.ref 71)) σ) Q := by
  intro n
  induction n with
  | zero => intro x1 x3 w2 w4 σ h; exact jw_none h
  | succ n ih =>
    intro x1 x3 w2 w4 σ h
    rw [f_X11_roads_b189] at h
    refine xo_0 rfl ?_
    refine xo_0 rfl ?_
    refine xo_64 (t := jm_b222_264) rfl (fun hc1 => ?_) (fun hc1 => ?_)
    · replace h := jw_pos hc1 h
      refine xo_2 rfl ?_
      refine xo_2 rfl ?_
      refine xm_32 (i := 4181) (v := (σ.1 4181)) (jSrd_ok hS (.ref 71)) ly65 rfl ⟨Nat.le_of_ble_eq_true rfl, Nat.le_of_ble_eq_true rfl⟩ rfl ?_
      refine xm_34 (i := 4164) (jSrd_ok hS (.ref 71)) ly65 rfl ⟨Nat.le_of_ble_eq_true rfl, Nat.le_of_ble_eq_true rfl⟩ ?_
      refine xo_2 rfl ?_
      refine xo_8 ?_
      refine xm_34 (i := 4165) (jSrd_ok hS (.ref 71)) ly65 rfl ⟨Nat.le_of_ble_eq_true rfl, Nat.le_of_ble_eq_true rfl⟩ ?_
      refine xo_2 rfl ?_
      refine xo_49 (st' := []) rfl rfl (xm_ly (jSrd_ok hS (.ref 71)) ly65) rfl (Nat.le_of_ble_eq_true rfl) ?_
      refine t_X11_empty hS ?_
      refine jw_mono (jw_bind h) (fun q2 h => ?_)
      show jx_Ex _ _ _ _ [] (jh (jSrd S (.ref 71)) q2.2) _
      refine xo_2 rfl ?_
      refine xo_8 ?_
      refine xm_34 (i := 4203) (jSrd_ok hS (.ref 71)) ly65 rfl ⟨Nat.le_of_ble_eq_true rfl, Nat.le_of_ble_eq_true rfl⟩ ?_
      refine xo_2 rfl ?_
      refine xo_8 ?_
      refine xm_34 (i := 4189) (jSrd_ok hS (.ref 71)) ly65 rfl ⟨Nat.le_of_ble_eq_true rfl, Nat.le_of_ble_eq_true rfl⟩ ?_
      refine xo_8 ?_
      refine xo_4 (ls' := [.ref 65, .int x1, w2, .int 0, w4]) rfl ?_
      exact t_X11_roads_b293 hS 1000 h
    · replace h := jw_neg hc1 h
      refine xo_2 rfl ?_
      refine xm_33 (i := 4162) (q := 67) (jSrd_ok hS (.ref 71)) ly65 rfl (xm_P (jSrd_ok hS (.ref 71)) (by decide)) ?_
      refine xo_0 rfl ?_
      refine xo_2 rfl ?_
      refine xm_33 (i := 4178) (q := 73) (jSrd_ok hS (.ref 71)) ly65 rfl (xm_P (jSrd_ok hS (.ref 71)) (by decide)) ?_
      refine xo_0 rfl ?_
      obtain ⟨hi3, h⟩ := jw_chk h
      refine xm_38 (j := x3.toNatClampNeg) (v := (σ.2 73 x3.toNatClampNeg)) (jSrd_ok hS (.ref 71)) ly73 ⟨Nat.le_of_ble_eq_true rfl, Nat.le_of_ble_eq_true rfl⟩ hi3 rfl rfl ?_
      refine xm_41 (j := x3.toNatClampNeg) (jSrd_ok hS (.ref 71)) ly67 ⟨Nat.le_of_ble_eq_true rfl, Nat.le_of_ble_eq_true rfl⟩ hi3 rfl ?_
      refine xo_8 ?_
      refine xo_5 (ls' := [.ref 65, .int x1, w2, .int x3, .int 0]) rfl ?_
      exact t_X11_roads_b209 hS ih 1000 h
theorem t_X11_roads_b168 {S : jS} (hS : jMok S) {d : Nat} {Q : Option Value → jx_H → Prop} {x1 : Int32} {w2 : Value} {w3 : Value} {w4 : Value} {σ : jT} (h : jw (f_X11_roads_b168 x1 σ) (fun q => ∀ rd : Value, Q (some (.int q.1)) (jh (jSrd S rd) q.2))) : jx_Ex (d + 3) jm_l222 jm_b222_168 [.ref 65, .int x1, w2, w3, w4] [] (jh (jSrd S (.ref 71)) σ) Q := by
  unfold f_X11_roads_b168 at h
  refine xo_2 rfl ?_
  refine xo_49 (st' := []) rfl rfl (xm_ly (jSrd_ok hS (.ref 71)) ly65) rfl (Nat.le_of_ble_eq_true rfl) ?_
  refine t_X11_fine hS ?_
  refine jw_mono (jw_bind h) (fun q1 h => ?_)
  show jx_Ex _ _ _ _ [.int q1.1] (jh (jSrd S (.ref 71)) q1.2) _
  refine xo_56 (t := jm_b222_182) rfl (fun hc2 => ?_) (fun hc2 => ?_)
  · replace h := jw_pos hc2 h
    refine xo_2 rfl ?_
    refine xo_0 rfl ?_
    refine xm_34 (i := 4161) (jSrd_ok hS (.ref 71)) ly65 rfl ⟨Nat.le_of_ble_eq_true rfl, Nat.le_of_ble_eq_true rfl⟩ ?_
    refine xo_8 ?_
    refine xo_4 (ls' := [.ref 65, .int x1, w2, .int 0, w4]) rfl ?_
    exact t_X11_roads_b189 hS 1000 h
  · replace h := jw_neg hc2 h
    refine xo_8 ?_
    refine xo_2 rfl ?_
    refine xm_32 (i := 4177) (v := (q1.2.1 4177)) (jSrd_ok hS (.ref 71)) ly65 rfl ⟨Nat.le_of_ble_eq_true rfl, Nat.le_of_ble_eq_true rfl⟩ rfl ?_
    refine xo_15 ?_
    replace h := jw_some h
    exact xo_69 (h (.ref 71))
theorem t_X11_roads_b156 {S : jS} (hS : jMok S) {d : Nat} {Q : Option Value → jx_H → Prop} {k115 : Int32 → Int32 → Int32 → jT → Option (Int32 × jT)} (hk115 : ∀ {x1 : Int32} {x3 : Int32} {x4 : Int32} {w2 : Value} {σ : jT}, jw (k115 x1 x3 x4 σ) (fun q => ∀ rd : Value, Q (some (.int q.1)) (jh (jSrd S rd) q.2)) → jx_Ex (d + 3) jm_l222 jm_b222_115 [.ref 65, .int x1, w2, .int x3, .int x4] [] (jh (jSrd S (.ref 71)) σ) Q) {x1 : Int32} {x3 : Int32} {x4 : Int32} {w2 : Value} {σ : jT} (h : jw (f_X11_roads_b156 k115 x1 x3 x4 σ) (fun q => ∀ rd : Value, Q (some (.int q.1)) (jh (jSrd S rd) q.2))) : jx_Ex (d + 3) jm_l222 jm_b222_156 [.ref 65, .int x1, w2, .int x3, .int x4] [] (jh (jSrd S (.ref 71)) σ) Q := by
  unfold f_X11_roads_b156 at h
  refine xo_13 (ls' := [.ref 65, .int x1, w2, .int x3, .int (x4 + 1)]) rfl rfl ?_
  refine xo_54 (t := jm_b222_115) rfl ?_
  exact hk115 h
theorem t_X11_roads_b115 {S : jS} (hS : jMok S) {d : Nat} {Q : Option Value → jx_H → Prop} {k100 : Int32 → Int32 → jT → Option (Int32 × jT)} (hk100 : ∀ {x1 : Int32} {x3 : Int32} {w2 : Value} {w4 : Value} {σ : jT}, jw (k100 x1 x3 σ) (fun q => ∀ rd : Value, Q (some (.int q.1)) (jh (jSrd S rd) q.2)) → jx_Ex (d + 3) jm_l222 jm_b222_100 [.ref 65, .int x1, w2, .int x3, w4] [] (jh (jSrd S (.ref 71)) σ) Q) : ∀ (n : Nat) {x1 : Int32} {x3 : Int32} {x4 : Int32} {w2 : Value} {σ : jT}, jw (f_X11_roads_b115 k100 n x1 x3 x4 σ) (fun q => ∀ rd : Value, Q (some (.int q.1)) (jh (jSrd S rd) q.2)) → jx_Ex (d + 3) jm_l222 jm_b222_115 [.ref 65, .int x1, w2, .int x3, .int x4] [] (jh (jSrd S (.ref 71)) σ) Q := by
  intro n
  induction n with
  | zero => intro x1 x3 x4 w2 σ h; exact jw_none h
  | succ n ih =>
    intro x1 x3 x4 w2 σ h
    rw [f_X11_roads_b115] at h
    refine xo_1 rfl ?_
    refine xo_2 rfl ?_
    refine xm_33 (i := 4178) (q := 73) (jSrd_ok hS (.ref 71)) ly65 rfl (xm_P (jSrd_ok hS (.ref 71)) (by decide)) ?_
    refine xo_0 rfl ?_
    obtain ⟨hi1, h⟩ := jw_chk h
    refine xm_38 (j := x3.toNatClampNeg) (v := (σ.2 73 x3.toNatClampNeg)) (jSrd_ok hS (.ref 71)) ly73 ⟨Nat.le_of_ble_eq_true rfl, Nat.le_of_ble_eq_true rfl⟩ hi1 rfl rfl ?_
    refine xo_64 (t := jm_b222_162) rfl (fun hc2 => ?_) (fun hc2 => ?_)
    · replace h := jw_pos hc2 h
      refine xo_13 (ls' := [.ref 65, .int x1, w2, .int (x3 + 1), .int x4]) rfl rfl ?_
      refine xo_54 (t := jm_b222_100) rfl ?_
      exact hk100 h
    · replace h := jw_neg hc2 h
      refine xo_2 rfl ?_
      refine xm_33 (i := 4179) (q := 74) (jSrd_ok hS (.ref 71)) ly65 rfl (xm_P (jSrd_ok hS (.ref 71)) (by decide)) ?_
      refine xo_8 ?_
      refine xo_0 rfl ?_
      refine xo_16 ?_
      refine xo_1 rfl ?_
      refine xo_14 ?_
      obtain ⟨hi3, h⟩ := jw_chk h
      refine xm_38 (j := ((3 * x3) + x4).toNatClampNeg) (v := (σ.2 74 ((3 * x3) + x4).toNatClampNeg)) (jSrd_ok hS (.ref 71)) ly74 ⟨Nat.le_of_ble_eq_true rfl, Nat.le_of_ble_eq_true rfl⟩ hi3 rfl rfl ?_
      refine xo_0 rfl ?_
      refine xo_63 (t := jm_b222_156) rfl (fun hc4 => ?_) (fun hc4 => ?_)
      · replace h := jw_pos hc4 h
        exact t_X11_roads_b156 hS ih h
      · replace h := jw_neg hc4 h
        refine xo_2 rfl ?_
        refine xo_2 rfl ?_
        refine xm_33 (i := 4180) (q := 75) (jSrd_ok hS (.ref 71)) ly65 rfl (xm_P (jSrd_ok hS (.ref 71)) (by decide)) ?_
        refine xo_8 ?_
        refine xo_0 rfl ?_
        refine xo_16 ?_
        refine xo_1 rfl ?_
        refine xo_14 ?_
        refine xm_38 (j := ((3 * x3) + x4).toNatClampNeg) (v := (σ.2 75 ((3 * x3) + x4).toNatClampNeg)) (jSrd_ok hS (.ref 71)) ly75 ⟨Nat.le_of_ble_eq_true rfl, Nat.le_of_ble_eq_true rfl⟩ hi3 rfl rfl ?_
        refine xo_49 (st' := []) rfl rfl (xm_ly (jSrd_ok hS (.ref 71)) ly65) rfl (Nat.le_of_ble_eq_true rfl) ?_
        refine t_X11_fault hS ?_
        refine jw_mono (jw_bind h) (fun q5 h => ?_)
        show jx_Ex _ _ _ _ [] (jh (jSrd S (.ref 71)) q5.2) _
        exact t_X11_roads_b156 hS ih h
theorem t_X11_roads_b100 {S : jS} (hS : jMok S) {d : Nat} {Q : Option Value → jx_H → Prop} : ∀ (n : Nat) {x1 : Int32} {x3 : Int32} {w2 : Value} {w4 : Value} {σ : jT}, jw (f_X11_roads_b100 n x1 x3 σ) (fun q => ∀ rd : Value, Q (some (.int q.1)) (jh (jSrd S rd) q.2)) → jx_Ex (d + 3) jm_l222 jm_b222_100 [.ref 65, .int x1, w2, .int x3, w4] [] (jh (jSrd S (.ref 71)) σ) Q := by
  intro n
  induction n with
  | zero => intro x1 x3 w2 w4 σ h; exact jw_none h
  | succ n ih =>
    intro x1 x3 w2 w4 σ h
    rw [f_X11_roads_b100] at h
    refine xo_0 rfl ?_
    refine xo_0 rfl ?_
    refine xo_64 (t := jm_b222_168) rfl (fun hc1 => ?_) (fun hc1 => ?_)
    · replace h := jw_pos hc1 h
      exact t_X11_roads_b168 hS h
    · replace h := jw_neg hc1 h
      refine xo_2 rfl ?_
      refine xo_49 (st' := []) rfl rfl (xm_ly (jSrd_ok hS (.ref 71)) ly65) rfl (Nat.le_of_ble_eq_true rfl) ?_
      refine t_X11_fine hS ?_
      refine jw_mono (jw_bind h) (fun q2 h => ?_)
      show jx_Ex _ _ _ _ [.int q2.1] (jh (jSrd S (.ref 71)) q2.2) _
      refine xo_55 (t := jm_b222_168) rfl (fun hc3 => ?_) (fun hc3 => ?_)
      · replace h := jw_pos hc3 h
        exact t_X11_roads_b168 hS h
      · replace h := jw_neg hc3 h
        refine xo_8 ?_
        refine xo_5 (ls' := [.ref 65, .int x1, w2, .int x3, .int 0]) rfl ?_
        exact t_X11_roads_b115 hS ih 1000 h
theorem t_X11_roads_b98 {S : jS} (hS : jMok S) {d : Nat} {Q : Option Value → jx_H → Prop} {x1 : Int32} {w2 : Value} {w3 : Value} {w4 : Value} {σ : jT} (h : jw (f_X11_roads_b98 x1 σ) (fun q => ∀ rd : Value, Q (some (.int q.1)) (jh (jSrd S rd) q.2))) : jx_Ex (d + 3) jm_l222 jm_b222_98 [.ref 65, .int x1, w2, w3, w4] [] (jh (jSrd S (.ref 71)) σ) Q := by
  unfold f_X11_roads_b98 at h
  refine xo_8 ?_
  refine xo_4 (ls' := [.ref 65, .int x1, w2, .int 0, w4]) rfl ?_
  exact t_X11_roads_b100 hS 1000 h
theorem t_X11_roads_b79 {S : jS} (hS : jMok S) {d : Nat} {Q : Option Value → jx_H → Prop} {x1 : Int32} {w2 : Value} {w3 : Value} {w4 : Value} {σ : jT} (h : jw (f_X11_roads_b79 x1 σ) (fun q => ∀ rd : Value, Q (some (.int q.1)) (jh (jSrd S rd) q.2))) : jx_Ex (d + 3) jm_l222 jm_b222_79 [.ref 65, .int x1, w2, w3, w4] [] (jh (jSrd S (.ref 71)) σ) Q := by
  unfold f_X11_roads_b79 at h
  refine xo_2 rfl ?_
  refine xm_32 (i := 4176) (v := (σ.1 4176)) (jSrd_ok hS (.ref 71)) ly65 rfl ⟨Nat.le_of_ble_eq_true rfl, Nat.le_of_ble_eq_true rfl⟩ rfl ?_
  refine xo_2 rfl ?_
  refine xm_32 (i := 4174) (v := (σ.1 4174)) (jSrd_ok hS (.ref 71)) ly65 rfl ⟨Nat.le_of_ble_eq_true rfl, Nat.le_of_ble_eq_true rfl⟩ rfl ?_
  refine xo_64 (t := jm_b222_98) rfl (fun hc1 => ?_) (fun hc1 => ?_)
  · replace h := jw_pos hc1 h
    exact t_X11_roads_b98 hS h
  · replace h := jw_neg hc1 h
    refine xo_2 rfl ?_
    refine xo_2 rfl ?_
    refine xm_32 (i := 4176) (v := (σ.1 4176)) (jSrd_ok hS (.ref 71)) ly65 rfl ⟨Nat.le_of_ble_eq_true rfl, Nat.le_of_ble_eq_true rfl⟩ rfl ?_
    refine xo_49 (st' := []) rfl rfl (xm_ly (jSrd_ok hS (.ref 71)) ly65) rfl (Nat.le_of_ble_eq_true rfl) ?_
    refine t_X11_fault hS ?_
    refine jw_mono (jw_bind h) (fun q2 h => ?_)
    show jx_Ex _ _ _ _ [] (jh (jSrd S (.ref 71)) q2.2) _
    exact t_X11_roads_b98 hS h
theorem t_X11_roads_b66 {S : jS} (hS : jMok S) {d : Nat} {Q : Option Value → jx_H → Prop} {k33 : Int32 → Int32 → jT → Option (Int32 × jT)} (hk33 : ∀ {x1 : Int32} {x2 : Int32} {w3 : Value} {w4 : Value} {σ : jT}, jw (k33 x1 x2 σ) (fun q => ∀ rd : Value, Q (some (.int q.1)) (jh (jSrd S rd) q.2)) → jx_Ex (d + 3) jm_l222 jm_b222_33 [.ref 65, .int x1, .int x2, w3, w4] [] (jh (jSrd S (.ref 71)) σ) Q) {x1 : Int32} {w2 : Value} {w3 : Value} {w4 : Value} {σ : jT} (h : jw (f_X11_roads_b66 k33 x1 σ) (fun q => ∀ rd : Value, Q (some (.int q.1)) (jh (jSrd S rd) q.2))) : jx_Ex (d + 3) jm_l222 jm_b222_66 [.ref 65, .int x1, w2, w3, w4] [] (jh (jSrd S (.ref 71)) σ) Q := by
  unfold f_X11_roads_b66 at h
  refine xo_13 (ls' := [.ref 65, .int (x1 + 1), w2, w3, w4]) rfl rfl ?_
  refine xo_2 rfl ?_
  refine xo_9 ?_
  refine xo_49 (st' := []) rfl rfl (xm_ly (jSrd_ok hS (.ref 71)) ly65) rfl (Nat.le_of_ble_eq_true rfl) ?_
  refine t_X11_passes_T hS ?_
  refine jw_mono (jw_bind h) (fun q1 h => ?_)
  show jx_Ex _ _ _ _ [.int q1.1] (jh (jSrd S (.ref 71)) q1.2) _
  refine xo_4 (ls' := [.ref 65, .int (x1 + 1), .int q1.1, w3, w4]) rfl ?_
  refine xo_54 (t := jm_b222_33) rfl ?_
  exact hk33 h
theorem t_X11_roads_b33 {S : jS} (hS : jMok S) {d : Nat} {Q : Option Value → jx_H → Prop} : ∀ (n : Nat) {x1 : Int32} {x2 : Int32} {w3 : Value} {w4 : Value} {σ : jT}, jw (f_X11_roads_b33 n x1 x2 σ) (fun q => ∀ rd : Value, Q (some (.int q.1)) (jh (jSrd S rd) q.2)) → jx_Ex (d + 3) jm_l222 jm_b222_33 [.ref 65, .int x1, .int x2, w3, w4] [] (jh (jSrd S (.ref 71)) σ) Q := by
  intro n
  induction n with
  | zero => intro x1 x2 w3 w4 σ h; exact jw_none h
  | succ n ih =>
    intro x1 x2 w3 w4 σ h
    rw [f_X11_roads_b33] at h
    refine xo_0 rfl ?_
    refine xo_55 (t := jm_b222_79) rfl (fun hc1 => ?_) (fun hc1 => ?_)
    · replace h := jw_pos hc1 h
      exact t_X11_roads_b79 hS h
    · replace h := jw_neg hc1 h
      refine xo_2 rfl ?_
      refine xo_49 (st' := []) rfl rfl (xm_ly (jSrd_ok hS (.ref 71)) ly65) rfl (Nat.le_of_ble_eq_true rfl) ?_
      refine t_X11_fine hS ?_
      refine jw_mono (jw_bind h) (fun q2 h => ?_)
      show jx_Ex _ _ _ _ [.int q2.1] (jh (jSrd S (.ref 71)) q2.2) _
      refine xo_55 (t := jm_b222_79) rfl (fun hc3 => ?_) (fun hc3 => ?_)
      · replace h := jw_pos hc3 h
        exact t_X11_roads_b79 hS h
      · replace h := jw_neg hc3 h
        refine xo_0 rfl ?_
        refine xo_9 ?_
        refine xo_62 (t := jm_b222_61) rfl (fun hc4 => ?_) (fun hc4 => ?_)
        · replace h := jw_pos hc4 h
          refine xo_2 rfl ?_
          refine xo_0 rfl ?_
          refine xo_49 (st' := []) rfl rfl (xm_ly (jSrd_ok hS (.ref 71)) ly65) rfl (Nat.le_of_ble_eq_true rfl) ?_
          refine t_X11_readPlace_T hS ?_
          refine jw_mono (jw_bind h) (fun q5 h => ?_)
          show jx_Ex _ _ _ _ [] (jh (jSrd S (.ref 71)) q5.2) _
          exact t_X11_roads_b66 hS ih h
        · replace h := jw_neg hc4 h
          refine xo_2 rfl ?_
          refine xo_2 rfl ?_
          refine xm_32 (i := 4176) (v := (q2.2.1 4176)) (jSrd_ok hS (.ref 71)) ly65 rfl ⟨Nat.le_of_ble_eq_true rfl, Nat.le_of_ble_eq_true rfl⟩ rfl ?_
          refine xo_49 (st' := []) rfl rfl (xm_ly (jSrd_ok hS (.ref 71)) ly65) rfl (Nat.le_of_ble_eq_true rfl) ?_
          refine t_X11_fault hS ?_
          refine jw_mono (jw_bind h) (fun q6 h => ?_)
          show jx_Ex _ _ _ _ [] (jh (jSrd S (.ref 71)) q6.2) _
          refine xo_54 (t := jm_b222_66) rfl ?_
          exact t_X11_roads_b66 hS ih h
theorem t_X11_roads {S : jS} (hS : jMok S) {d : Nat} {Q : Option Value → jx_H → Prop} {rd : Value} {σ : jT} (h : jw (f_X11_roads σ) (fun q => ∀ rd : Value, Q (some (.int q.1)) (jh (jSrd S rd) q.2))) : jx_Sp (d + 3) 222 [.ref 65] (jh (jSrd S rd) σ) Q := by
  refine ⟨jm_i222, jm_at222, rfl, rfl, ?_⟩
  show jx_Ex _ jm_l222 jm_b222_0 [.ref 65, .retAddr 0, .retAddr 0, .retAddr 0, .retAddr 0] [] _ _
  unfold f_X11_roads at h
  refine xo_2 rfl ?_
  refine xo_8 ?_
  refine xm_34 (i := 4172) (jSrd_ok hS rd) ly65 rfl ⟨Nat.le_of_ble_eq_true rfl, Nat.le_of_ble_eq_true rfl⟩ ?_
  refine xo_2 rfl ?_
  refine xo_2 rfl ?_
  refine xm_33 (i := 4168) (q := 71) (jSrd_ok hS rd) ly65 rfl (xm_P (jSrd_ok hS rd) (by decide)) ?_
  refine xo_2 rfl ?_
  refine xm_32 (i := 4169) (v := (σ.1 4169)) (jSrd_ok hS rd) ly65 rfl ⟨Nat.le_of_ble_eq_true rfl, Nat.le_of_ble_eq_true rfl⟩ rfl ?_
  refine xo_9 ?_
  refine xo_49 (st' := []) rfl rfl (xm_ly (jSrd_ok hS rd) ly65) rfl (Nat.le_of_ble_eq_true rfl) ?_
  refine t_X11_begin_71 hS ?_
  refine jw_mono (jw_bind h) (fun q1 h => ?_)
  show jx_Ex _ _ _ _ [] (jh (jSrd S (.ref 71)) q1.2) _
  refine xo_2 rfl ?_
  refine xo_8 ?_
  refine xm_34 (i := 4169) (jSrd_ok hS (.ref 71)) ly65 rfl ⟨Nat.le_of_ble_eq_true rfl, Nat.le_of_ble_eq_true rfl⟩ ?_
  refine xo_8 ?_
  refine xo_4 (ls' := [.ref 65, .int 0, .retAddr 0, .retAddr 0, .retAddr 0]) rfl ?_
  refine xo_2 rfl ?_
  refine xo_8 ?_
  refine xm_34 (i := 4181) (jSrd_ok hS (.ref 71)) ly65 rfl ⟨Nat.le_of_ble_eq_true rfl, Nat.le_of_ble_eq_true rfl⟩ ?_
  refine xo_8 ?_
  refine xo_4 (ls' := [.ref 65, .int 0, .int 1, .retAddr 0, .retAddr 0]) rfl ?_
  exact t_X11_roads_b33 hS 1000 h
/-- OfDifferentMindsModel.digit, at ['m', 'int', 'int'] T -/
def f_X11_digit_T (x1 : Int32) (x2 : Int32) (σ : jT) : Option (Int32 × jT) :=
  (f_X11_fine σ).bind fun q1 =>
  if ¬ q1.1 = 0 then
    (f_X11_here_T q1.2).bind fun q3 =>
    (f_X11_in q3.1 (48 + x1) (48 + x2) q3.2).bind fun q4 =>
    if ¬ q4.1 = 0 then
      if jx_in (((q4.2.1 4176) + 1) - 1) 80 then
      some (((q4.2.2 71 (((q4.2.1 4176) + 1) - 1).toNatClampNeg) - 48), (gs q4.2 4176 ((q4.2.1 4176) + 1)))
      else none
    else
      (f_X11_fault (q4.2.1 4176) q4.2).bind fun q7 =>
      some (0, q7.2)
  else
    some (0, q1.2)
theorem t_X11_digit_T {S : jS} (hS : jMok S) {d : Nat} {Q : Option Value → jx_H → Prop} {x1 : Int32} {x2 : Int32} {σ : jT} (h : jw (f_X11_digit_T x1 x2 σ) (fun q => Q (some (.int q.1)) (jh (jSrd S (.ref 71)) q.2))) : jx_Sp (d + 2) 219 [.ref 65, .int x1, .int x2] (jh (jSrd S (.ref 71)) σ) Q := by
  refine ⟨jm_i219, jm_at219, rfl, rfl, ?_⟩
  show jx_Ex _ jm_l219 jm_b219_0 [.ref 65, .int x1, .int x2] [] _ _
  unfold f_X11_digit_T at h
  refine xo_2 rfl ?_
  refine xo_49 (st' := []) rfl rfl (xm_ly (jSrd_ok hS (.ref 71)) ly65) rfl (Nat.le_of_ble_eq_true rfl) ?_
  refine t_X11_fine hS ?_
  refine jw_mono (jw_bind h) (fun q1 h => ?_)
  show jx_Ex _ _ _ _ [.int q1.1] (jh (jSrd S (.ref 71)) q1.2) _
  refine xo_56 (t := jm_b219_9) rfl (fun hc2 => ?_) (fun hc2 => ?_)
  · replace h := jw_pos hc2 h
    refine xo_2 rfl ?_
    refine xo_49 (st' := []) rfl rfl (xm_ly (jSrd_ok hS (.ref 71)) ly65) rfl (Nat.le_of_ble_eq_true rfl) ?_
    refine t_X11_here_T hS ?_
    refine jw_mono (jw_bind h) (fun q3 h => ?_)
    show jx_Ex _ _ _ _ [.int q3.1] (jh (jSrd S (.ref 71)) q3.2) _
    refine xo_9 ?_
    refine xo_0 rfl ?_
    refine xo_14 ?_
    refine xo_9 ?_
    refine xo_0 rfl ?_
    refine xo_14 ?_
    refine xo_50 (st' := []) rfl rfl rfl (Nat.le_of_ble_eq_true rfl) ?_
    refine t_X11_in hS ?_
    refine jw_mono (jw_bind h) (fun q4 h => ?_)
    show jx_Ex _ _ _ _ [.int q4.1] (jh (jSrd S (.ref 71)) q4.2) _
    refine xo_56 (t := jm_b219_37) rfl (fun hc5 => ?_) (fun hc5 => ?_)
    · replace h := jw_pos hc5 h
      refine xo_2 rfl ?_
      refine xo_28r ?_
      refine xm_32 (i := 4176) (v := (q4.2.1 4176)) (jSrd_ok hS (.ref 71)) ly65 rfl ⟨Nat.le_of_ble_eq_true rfl, Nat.le_of_ble_eq_true rfl⟩ rfl ?_
      refine xo_8 ?_
      refine xo_14 ?_
      refine xm_34 (i := 4176) (jSrd_ok hS (.ref 71)) ly65 rfl ⟨Nat.le_of_ble_eq_true rfl, Nat.le_of_ble_eq_true rfl⟩ ?_
      refine xo_2 rfl ?_
      refine xm_33 (i := 4173) (q := 71) (jSrd_ok hS (.ref 71)) ly65 rfl (jSrd_rd _) ?_
      refine xo_2 rfl ?_
      refine xm_32 (i := 4176) (v := ((q4.2.1 4176) + 1)) (jSrd_ok hS (.ref 71)) ly65 rfl ⟨Nat.le_of_ble_eq_true rfl, Nat.le_of_ble_eq_true rfl⟩ rfl ?_
      refine xo_8 ?_
      refine xo_15 ?_
      obtain ⟨hi6, h⟩ := jw_chk h
      refine xm_39 (j := (((q4.2.1 4176) + 1) - 1).toNatClampNeg) (v := (q4.2.2 71 (((q4.2.1 4176) + 1) - 1).toNatClampNeg)) (jSrd_ok hS (.ref 71)) (Or.inl ly71) ⟨Nat.le_of_ble_eq_true rfl, Nat.le_of_ble_eq_true rfl⟩ hi6 rfl rfl ?_
      refine xo_9 ?_
      refine xo_15 ?_
      replace h := jw_some h
      exact xo_69 h
    · replace h := jw_neg hc5 h
      refine xo_2 rfl ?_
      refine xo_2 rfl ?_
      refine xm_32 (i := 4176) (v := (q4.2.1 4176)) (jSrd_ok hS (.ref 71)) ly65 rfl ⟨Nat.le_of_ble_eq_true rfl, Nat.le_of_ble_eq_true rfl⟩ rfl ?_
      refine xo_49 (st' := []) rfl rfl (xm_ly (jSrd_ok hS (.ref 71)) ly65) rfl (Nat.le_of_ble_eq_true rfl) ?_
      refine t_X11_fault hS ?_
      refine jw_mono (jw_bind h) (fun q7 h => ?_)
      show jx_Ex _ _ _ _ [] (jh (jSrd S (.ref 71)) q7.2) _
      refine xo_8 ?_
      replace h := jw_some h
      exact xo_69 h
  · replace h := jw_neg hc2 h
    refine xo_8 ?_
    replace h := jw_some h
    exact xo_69 h
/-- OfDifferentMindsModel.number, at ['m', 'int'] T -/
def f_X11_number_T_b10 : Nat → Int32 → Int32 → Int32 → jT → Option (Int32 × jT)
  | 0, _, _, _, _ => none
  | n + 1, x1, x2, x3, σ =>
    if x1 ≤ x3 then
      some (x2, σ)
    else
      (f_X11_fine σ).bind fun q2 =>
      if q2.1 = 0 then
        some (x2, q2.2)
      else
        (f_X11_here_T q2.2).bind fun q4 =>
        (f_X11_in q4.1 48 57 q4.2).bind fun q5 =>
        if q5.1 = 0 then
          some (x2, q5.2)
        else
          (f_X11_digit_T 0 9 q5.2).bind fun q7 =>
          f_X11_number_T_b10 n x1 ((10 * x2) + q7.1) (x3 + 1) q7.2
def f_X11_number_T (x1 : Int32) (σ : jT) : Option (Int32 × jT) :=
  (f_X11_digit_T 0 9 σ).bind fun q1 =>
  f_X11_number_T_b10 1000 x1 q1.1 1 q1.2
theorem t_X11_number_T_b10 {S : jS} (hS : jMok S) {d : Nat} {Q : Option Value → jx_H → Prop} : ∀ (n : Nat) {x1 : Int32} {x2 : Int32} {x3 : Int32} {σ : jT}, jw (f_X11_number_T_b10 n x1 x2 x3 σ) (fun q => Q (some (.int q.1)) (jh (jSrd S (.ref 71)) q.2)) → jx_Ex (d + 3) jm_l220 jm_b220_10 [.ref 65, .int x1, .int x2, .int x3] [] (jh (jSrd S (.ref 71)) σ) Q := by
  intro n
  induction n with
  | zero => intro x1 x2 x3 σ h; exact jw_none h
  | succ n ih =>
    intro x1 x2 x3 σ h
    rw [f_X11_number_T_b10] at h
    refine xo_0 rfl ?_
    refine xo_0 rfl ?_
    refine xo_64 (t := jm_b220_55) rfl (fun hc1 => ?_) (fun hc1 => ?_)
    · replace h := jw_pos hc1 h
      refine xo_0 rfl ?_
      replace h := jw_some h
      exact xo_69 h
    · replace h := jw_neg hc1 h
      refine xo_2 rfl ?_
      refine xo_49 (st' := []) rfl rfl (xm_ly (jSrd_ok hS (.ref 71)) ly65) rfl (Nat.le_of_ble_eq_true rfl) ?_
      refine t_X11_fine hS ?_
      refine jw_mono (jw_bind h) (fun q2 h => ?_)
      show jx_Ex _ _ _ _ [.int q2.1] (jh (jSrd S (.ref 71)) q2.2) _
      refine xo_55 (t := jm_b220_55) rfl (fun hc3 => ?_) (fun hc3 => ?_)
      · replace h := jw_pos hc3 h
        refine xo_0 rfl ?_
        replace h := jw_some h
        exact xo_69 h
      · replace h := jw_neg hc3 h
        refine xo_2 rfl ?_
        refine xo_49 (st' := []) rfl rfl (xm_ly (jSrd_ok hS (.ref 71)) ly65) rfl (Nat.le_of_ble_eq_true rfl) ?_
        refine t_X11_here_T hS ?_
        refine jw_mono (jw_bind h) (fun q4 h => ?_)
        show jx_Ex _ _ _ _ [.int q4.1] (jh (jSrd S (.ref 71)) q4.2) _
        refine xo_9 ?_
        refine xo_9 ?_
        refine xo_50 (st' := []) rfl rfl rfl (Nat.le_of_ble_eq_true rfl) ?_
        refine t_X11_in hS ?_
        refine jw_mono (jw_bind h) (fun q5 h => ?_)
        show jx_Ex _ _ _ _ [.int q5.1] (jh (jSrd S (.ref 71)) q5.2) _
        refine xo_55 (t := jm_b220_55) rfl (fun hc6 => ?_) (fun hc6 => ?_)
        · replace h := jw_pos hc6 h
          refine xo_0 rfl ?_
          replace h := jw_some h
          exact xo_69 h
        · replace h := jw_neg hc6 h
          refine xo_9 ?_
          refine xo_0 rfl ?_
          refine xo_16 ?_
          refine xo_2 rfl ?_
          refine xo_8 ?_
          refine xo_9 ?_
          refine xo_49 (st' := [.int (10 * x2)]) rfl rfl (xm_ly (jSrd_ok hS (.ref 71)) ly65) rfl (Nat.le_of_ble_eq_true rfl) ?_
          refine t_X11_digit_T hS ?_
          refine jw_mono (jw_bind h) (fun q7 h => ?_)
          show jx_Ex _ _ _ _ [.int q7.1, .int (10 * x2)] (jh (jSrd S (.ref 71)) q7.2) _
          refine xo_14 ?_
          refine xo_4 (ls' := [.ref 65, .int x1, .int ((10 * x2) + q7.1), .int x3]) rfl ?_
          refine xo_13 (ls' := [.ref 65, .int x1, .int ((10 * x2) + q7.1), .int (x3 + 1)]) rfl rfl ?_
          refine xo_54 (t := jm_b220_10) rfl ?_
          exact ih h
theorem t_X11_number_T {S : jS} (hS : jMok S) {d : Nat} {Q : Option Value → jx_H → Prop} {x1 : Int32} {σ : jT} (h : jw (f_X11_number_T x1 σ) (fun q => Q (some (.int q.1)) (jh (jSrd S (.ref 71)) q.2))) : jx_Sp (d + 3) 220 [.ref 65, .int x1] (jh (jSrd S (.ref 71)) σ) Q := by
  refine ⟨jm_i220, jm_at220, rfl, rfl, ?_⟩
  show jx_Ex _ jm_l220 jm_b220_0 [.ref 65, .int x1, .retAddr 0, .retAddr 0] [] _ _
  unfold f_X11_number_T at h
  refine xo_2 rfl ?_
  refine xo_8 ?_
  refine xo_9 ?_
  refine xo_49 (st' := []) rfl rfl (xm_ly (jSrd_ok hS (.ref 71)) ly65) rfl (Nat.le_of_ble_eq_true rfl) ?_
  refine t_X11_digit_T hS ?_
  refine jw_mono (jw_bind h) (fun q1 h => ?_)
  show jx_Ex _ _ _ _ [.int q1.1] (jh (jSrd S (.ref 71)) q1.2) _
  refine xo_4 (ls' := [.ref 65, .int x1, .int q1.1, .retAddr 0]) rfl ?_
  refine xo_8 ?_
  refine xo_4 (ls' := [.ref 65, .int x1, .int q1.1, .int 1]) rfl ?_
  exact t_X11_number_T_b10 hS 1000 h
/-- OfDifferentMindsModel.need, at ['m', 'int'] T -/
def f_X11_need_T (x1 : Int32) (σ : jT) : Option (Int32 × jT) :=
  (f_X11_passes_T x1 σ).bind fun q1 =>
  if ¬ q1.1 = 0 then
    some (0, q1.2)
  else
    (f_X11_fault (q1.2.1 4176) q1.2).bind fun q3 =>
    some (0, q3.2)
theorem t_X11_need_T {S : jS} (hS : jMok S) {d : Nat} {Q : Option Value → jx_H → Prop} {x1 : Int32} {σ : jT} (h : jw (f_X11_need_T x1 σ) (fun q => Q none (jh (jSrd S (.ref 71)) q.2))) : jx_Sp (d + 2) 218 [.ref 65, .int x1] (jh (jSrd S (.ref 71)) σ) Q := by
  refine ⟨jm_i218, jm_at218, rfl, rfl, ?_⟩
  show jx_Ex _ jm_l218 jm_b218_0 [.ref 65, .int x1] [] _ _
  unfold f_X11_need_T at h
  refine xo_2 rfl ?_
  refine xo_0 rfl ?_
  refine xo_49 (st' := []) rfl rfl (xm_ly (jSrd_ok hS (.ref 71)) ly65) rfl (Nat.le_of_ble_eq_true rfl) ?_
  refine t_X11_passes_T hS ?_
  refine jw_mono (jw_bind h) (fun q1 h => ?_)
  show jx_Ex _ _ _ _ [.int q1.1] (jh (jSrd S (.ref 71)) q1.2) _
  refine xo_56 (t := jm_b218_16) rfl (fun hc2 => ?_) (fun hc2 => ?_)
  · replace h := jw_pos hc2 h
    replace h := jw_some h
    exact xo_71 h
  · replace h := jw_neg hc2 h
    refine xo_2 rfl ?_
    refine xo_2 rfl ?_
    refine xm_32 (i := 4176) (v := (q1.2.1 4176)) (jSrd_ok hS (.ref 71)) ly65 rfl ⟨Nat.le_of_ble_eq_true rfl, Nat.le_of_ble_eq_true rfl⟩ rfl ?_
    refine xo_49 (st' := []) rfl rfl (xm_ly (jSrd_ok hS (.ref 71)) ly65) rfl (Nat.le_of_ble_eq_true rfl) ?_
    refine t_X11_fault hS ?_
    refine jw_mono (jw_bind h) (fun q3 h => ?_)
    show jx_Ex _ _ _ _ [] (jh (jSrd S (.ref 71)) q3.2) _
    replace h := jw_some h
    exact xo_71 h
/-- OfDifferentMindsModel.readRider, at ['m', 'int'] T -/
def f_X11_readRider_T_b45 : Nat → Int32 → Int32 → jT → Option (Int32 × jT)
  | 0, _, _, _ => none
  | n + 1, x1, x2, σ =>
    if (σ.1 4161) ≤ x2 then
      some (0, σ)
    else
      (f_X11_digit_T 0 2 σ).bind fun q2 =>
      if jx_in ((x1 + 1) + x2) 66 then
      f_X11_readRider_T_b45 n x1 (x2 + 1) (gA q2.2 76 ((x1 + 1) + x2).toNatClampNeg q2.1)
      else none
def f_X11_readRider_T_b37 (x1 : Int32) (σ : jT) : Option (Int32 × jT) :=
  (f_X11_need_T 58 σ).bind fun q1 =>
  f_X11_readRider_T_b45 1000 x1 0 q1.2
def f_X11_readRider_T (x1 : Int32) (σ : jT) : Option (Int32 × jT) :=
  (f_X11_number_T 2 σ).bind fun q1 =>
  if jx_in x1 66 then
  (f_X11_fine (gA q1.2 76 x1.toNatClampNeg q1.1)).bind fun q3 =>
  if q3.1 = 0 then
    f_X11_readRider_T_b37 x1 q3.2
  else
    if ¬ (q3.2.2 76 x1.toNatClampNeg) = 0 then
      f_X11_readRider_T_b37 x1 q3.2
    else
      (f_X11_fault ((q3.2.1 4176) - 1) q3.2).bind fun q6 =>
      f_X11_readRider_T_b37 x1 q6.2
  else none
theorem t_X11_readRider_T_b45 {S : jS} (hS : jMok S) {d : Nat} {Q : Option Value → jx_H → Prop} : ∀ (n : Nat) {x1 : Int32} {x2 : Int32} {σ : jT}, jw (f_X11_readRider_T_b45 n x1 x2 σ) (fun q => Q none (jh (jSrd S (.ref 71)) q.2)) → jx_Ex (d + 4) jm_l223 jm_b223_45 [.ref 65, .int x1, .int x2] [] (jh (jSrd S (.ref 71)) σ) Q := by
  intro n
  induction n with
  | zero => intro x1 x2 σ h; exact jw_none h
  | succ n ih =>
    intro x1 x2 σ h
    rw [f_X11_readRider_T_b45] at h
    refine xo_0 rfl ?_
    refine xo_2 rfl ?_
    refine xm_32 (i := 4161) (v := (σ.1 4161)) (jSrd_ok hS (.ref 71)) ly65 rfl ⟨Nat.le_of_ble_eq_true rfl, Nat.le_of_ble_eq_true rfl⟩ rfl ?_
    refine xo_64 (t := jm_b223_75) rfl (fun hc1 => ?_) (fun hc1 => ?_)
    · replace h := jw_pos hc1 h
      replace h := jw_some h
      exact xo_71 h
    · replace h := jw_neg hc1 h
      refine xo_2 rfl ?_
      refine xm_33 (i := 4182) (q := 76) (jSrd_ok hS (.ref 71)) ly65 rfl (xm_P (jSrd_ok hS (.ref 71)) (by decide)) ?_
      refine xo_0 rfl ?_
      refine xo_8 ?_
      refine xo_14 ?_
      refine xo_0 rfl ?_
      refine xo_14 ?_
      refine xo_2 rfl ?_
      refine xo_8 ?_
      refine xo_8 ?_
      refine xo_49 (st' := [.int ((x1 + 1) + x2), .ref 76]) rfl rfl (xm_ly (jSrd_ok hS (.ref 71)) ly65) rfl (Nat.le_of_ble_eq_true rfl) ?_
      refine t_X11_digit_T hS ?_
      refine jw_mono (jw_bind h) (fun q2 h => ?_)
      show jx_Ex _ _ _ _ [.int q2.1, .int ((x1 + 1) + x2), .ref 76] (jh (jSrd S (.ref 71)) q2.2) _
      obtain ⟨hi3, h⟩ := jw_chk h
      refine xm_41 (j := ((x1 + 1) + x2).toNatClampNeg) (jSrd_ok hS (.ref 71)) ly76 ⟨Nat.le_of_ble_eq_true rfl, Nat.le_of_ble_eq_true rfl⟩ hi3 rfl ?_
      refine xo_13 (ls' := [.ref 65, .int x1, .int (x2 + 1)]) rfl rfl ?_
      refine xo_54 (t := jm_b223_45) rfl ?_
      exact ih h
theorem t_X11_readRider_T_b37 {S : jS} (hS : jMok S) {d : Nat} {Q : Option Value → jx_H → Prop} {x1 : Int32} {w2 : Value} {σ : jT} (h : jw (f_X11_readRider_T_b37 x1 σ) (fun q => Q none (jh (jSrd S (.ref 71)) q.2))) : jx_Ex (d + 4) jm_l223 jm_b223_37 [.ref 65, .int x1, w2] [] (jh (jSrd S (.ref 71)) σ) Q := by
  unfold f_X11_readRider_T_b37 at h
  refine xo_2 rfl ?_
  refine xo_9 ?_
  refine xo_49 (st' := []) rfl rfl (xm_ly (jSrd_ok hS (.ref 71)) ly65) rfl (Nat.le_of_ble_eq_true rfl) ?_
  refine t_X11_need_T hS ?_
  refine jw_mono (jw_bind h) (fun q1 h => ?_)
  show jx_Ex _ _ _ _ [] (jh (jSrd S (.ref 71)) q1.2) _
  refine xo_8 ?_
  refine xo_4 (ls' := [.ref 65, .int x1, .int 0]) rfl ?_
  exact t_X11_readRider_T_b45 hS 1000 h
theorem t_X11_readRider_T {S : jS} (hS : jMok S) {d : Nat} {Q : Option Value → jx_H → Prop} {x1 : Int32} {σ : jT} (h : jw (f_X11_readRider_T x1 σ) (fun q => Q none (jh (jSrd S (.ref 71)) q.2))) : jx_Sp (d + 4) 223 [.ref 65, .int x1] (jh (jSrd S (.ref 71)) σ) Q := by
  refine ⟨jm_i223, jm_at223, rfl, rfl, ?_⟩
  show jx_Ex _ jm_l223 jm_b223_0 [.ref 65, .int x1, .retAddr 0] [] _ _
  unfold f_X11_readRider_T at h
  refine xo_2 rfl ?_
  refine xm_33 (i := 4182) (q := 76) (jSrd_ok hS (.ref 71)) ly65 rfl (xm_P (jSrd_ok hS (.ref 71)) (by decide)) ?_
  refine xo_0 rfl ?_
  refine xo_2 rfl ?_
  refine xo_8 ?_
  refine xo_49 (st' := [.int x1, .ref 76]) rfl rfl (xm_ly (jSrd_ok hS (.ref 71)) ly65) rfl (Nat.le_of_ble_eq_true rfl) ?_
  refine t_X11_number_T hS ?_
  refine jw_mono (jw_bind h) (fun q1 h => ?_)
  show jx_Ex _ _ _ _ [.int q1.1, .int x1, .ref 76] (jh (jSrd S (.ref 71)) q1.2) _
  obtain ⟨hi2, h⟩ := jw_chk h
  refine xm_41 (j := x1.toNatClampNeg) (jSrd_ok hS (.ref 71)) ly76 ⟨Nat.le_of_ble_eq_true rfl, Nat.le_of_ble_eq_true rfl⟩ hi2 rfl ?_
  refine xo_2 rfl ?_
  refine xo_49 (st' := []) rfl rfl (xm_ly (jSrd_ok hS (.ref 71)) ly65) rfl (Nat.le_of_ble_eq_true rfl) ?_
  refine t_X11_fine hS ?_
  refine jw_mono (jw_bind h) (fun q3 h => ?_)
  show jx_Ex _ _ _ _ [.int q3.1] (jh (jSrd S (.ref 71)) q3.2) _
  refine xo_55 (t := jm_b223_37) rfl (fun hc4 => ?_) (fun hc4 => ?_)
  · replace h := jw_pos hc4 h
    exact t_X11_readRider_T_b37 hS h
  · replace h := jw_neg hc4 h
    refine xo_2 rfl ?_
    refine xm_33 (i := 4182) (q := 76) (jSrd_ok hS (.ref 71)) ly65 rfl (xm_P (jSrd_ok hS (.ref 71)) (by decide)) ?_
    refine xo_0 rfl ?_
    refine xm_38 (j := x1.toNatClampNeg) (v := (q3.2.2 76 x1.toNatClampNeg)) (jSrd_ok hS (.ref 71)) ly76 ⟨Nat.le_of_ble_eq_true rfl, Nat.le_of_ble_eq_true rfl⟩ hi2 rfl rfl ?_
    refine xo_56 (t := jm_b223_37) rfl (fun hc5 => ?_) (fun hc5 => ?_)
    · replace h := jw_pos hc5 h
      exact t_X11_readRider_T_b37 hS h
    · replace h := jw_neg hc5 h
      refine xo_2 rfl ?_
      refine xo_2 rfl ?_
      refine xm_32 (i := 4176) (v := (q3.2.1 4176)) (jSrd_ok hS (.ref 71)) ly65 rfl ⟨Nat.le_of_ble_eq_true rfl, Nat.le_of_ble_eq_true rfl⟩ rfl ?_
      refine xo_8 ?_
      refine xo_15 ?_
      refine xo_49 (st' := []) rfl rfl (xm_ly (jSrd_ok hS (.ref 71)) ly65) rfl (Nat.le_of_ble_eq_true rfl) ?_
      refine t_X11_fault hS ?_
      refine jw_mono (jw_bind h) (fun q6 h => ?_)
      show jx_Ex _ _ _ _ [] (jh (jSrd S (.ref 71)) q6.2) _
      exact t_X11_readRider_T_b37 hS h
/-- OfDifferentMindsModel.riders, at ['m'] U -/
def f_X11_riders_b156 (k126 : Int32 → Int32 → jT → Option (Int32 × jT)) : Nat → Int32 → Int32 → Int32 → Int32 → jT → Option (Int32 × jT)
  | 0, _, _, _, _, _ => none
  | n + 1, x1, x3, x4, x5, σ =>
    if (σ.1 4161) ≤ x5 then
      if jx_in (4 + (σ.1 4165)) 28 then
      if jx_in (10 + (σ.1 4165)) 28 then
      if jx_in (16 + (σ.1 4165)) 28 then
      if jx_in (22 + (σ.1 4165)) 28 then
      k126 x1 (x3 + 1) (gs (gA (gA (gA (gA σ 66 (4 + (σ.1 4165)).toNatClampNeg 0) 66 (10 + (σ.1 4165)).toNatClampNeg 0) 66 (16 + (σ.1 4165)).toNatClampNeg (-1)) 66 (22 + (σ.1 4165)).toNatClampNeg (σ.1 4165)) 4165 ((σ.1 4165) + 1))
      else none
      else none
      else none
      else none
    else
      if jx_in ((x4 + 1) + x5) 66 then
      if jx_in ((10 * (σ.1 4165)) + x5) 60 then
      f_X11_riders_b156 k126 n x1 x3 x4 (x5 + 1) (gA σ 70 ((10 * (σ.1 4165)) + x5).toNatClampNeg (σ.2 76 ((x4 + 1) + x5).toNatClampNeg))
      else none
      else none
def f_X11_riders_b126 : Nat → Int32 → Int32 → jT → Option (Int32 × jT)
  | 0, _, _, _ => none
  | n + 1, x1, x3, σ =>
    if x1 ≤ x3 then
      some (x1, (gs (gs σ 4189 0) 4208 ((σ.1 4208) + 1)))
    else
      if jx_in (11 * x3) 66 then
      if jx_in (σ.1 4165) 6 then
      f_X11_riders_b156 (f_X11_riders_b126 n) 1000 x1 x3 (11 * x3) 0 (gA σ 69 (σ.1 4165).toNatClampNeg (σ.2 76 (11 * x3).toNatClampNeg))
      else none
      else none
def f_X11_riders_b110 (x1 : Int32) (σ : jT) : Option (Int32 × jT) :=
  (f_X11_fine σ).bind fun q1 =>
  if ¬ q1.1 = 0 then
    f_X11_riders_b126 1000 x1 0 q1.2
  else
    some (((-1) - (q1.2.1 4177)), q1.2)
def f_X11_riders_b91 (x1 : Int32) (σ : jT) : Option (Int32 × jT) :=
  if (σ.1 4174) ≤ (σ.1 4176) then
    f_X11_riders_b110 x1 σ
  else
    (f_X11_fault (σ.1 4176) σ).bind fun q2 =>
    f_X11_riders_b110 x1 q2.2
def f_X11_riders_b78 (k37 : Int32 → Int32 → jT → Option (Int32 × jT)) (x1 : Int32) (σ : jT) : Option (Int32 × jT) :=
  (f_X11_passes_T 59 σ).bind fun q1 =>
  k37 (x1 + 1) q1.1 q1.2
def f_X11_riders_b37 : Nat → Int32 → Int32 → jT → Option (Int32 × jT)
  | 0, _, _, _ => none
  | n + 1, x1, x2, σ =>
    if x2 = 0 then
      f_X11_riders_b91 x1 σ
    else
      (f_X11_fine σ).bind fun q2 =>
      if q2.1 = 0 then
        f_X11_riders_b91 x1 q2.2
      else
        if ¬ ((q2.2.1 4165) + x1) = 6 then
          (f_X11_readRider_T (11 * x1) q2.2).bind fun q5 =>
          f_X11_riders_b78 (f_X11_riders_b37 n) x1 q5.2
        else
          (f_X11_fault (q2.2.1 4176) q2.2).bind fun q6 =>
          f_X11_riders_b78 (f_X11_riders_b37 n) x1 q6.2
def f_X11_riders (σ : jT) : Option (Int32 × jT) :=
  (f_X11_begin_71 (σ.1 4169) 76 (gs σ 4172 0)).bind fun q1 =>
  if ¬ (q1.2.1 4174) = 0 then
    f_X11_riders_b37 1000 0 1 (gs q1.2 4169 0)
  else
    some (0, (gs q1.2 4169 0))
theorem t_X11_riders_b156 {S : jS} (hS : jMok S) {d : Nat} {Q : Option Value → jx_H → Prop} {k126 : Int32 → Int32 → jT → Option (Int32 × jT)} (hk126 : ∀ {x1 : Int32} {x3 : Int32} {w2 : Value} {w4 : Value} {w5 : Value} {σ : jT}, jw (k126 x1 x3 σ) (fun q => ∀ rd : Value, Q (some (.int q.1)) (jh (jSrd S rd) q.2)) → jx_Ex (d + 5) jm_l224 jm_b224_126 [.ref 65, .int x1, w2, .int x3, w4, w5] [] (jh (jSrd S (.ref 71)) σ) Q) : ∀ (n : Nat) {x1 : Int32} {x3 : Int32} {x4 : Int32} {x5 : Int32} {w2 : Value} {σ : jT}, jw (f_X11_riders_b156 k126 n x1 x3 x4 x5 σ) (fun q => ∀ rd : Value, Q (some (.int q.1)) (jh (jSrd S rd) q.2)) → jx_Ex (d + 5) jm_l224 jm_b224_156 [.ref 65, .int x1, w2, .int x3, .int x4, .int x5] [] (jh (jSrd S (.ref 71)) σ) Q := by
  intro n
  induction n with
  | zero => intro x1 x3 x4 x5 w2 σ h; exact jw_none h
  | succ n ih =>
    intro x1 x3 x4 x5 w2 σ h
    rw [f_X11_riders_b156] at h
    refine xo_1 rfl ?_
    refine xo_2 rfl ?_
    refine xm_32 (i := 4161) (v := (σ.1 4161)) (jSrd_ok hS (.ref 71)) ly65 rfl ⟨Nat.le_of_ble_eq_true rfl, Nat.le_of_ble_eq_true rfl⟩ rfl ?_
    refine xo_64 (t := jm_b224_198) rfl (fun hc1 => ?_) (fun hc1 => ?_)
    · replace h := jw_pos hc1 h
      refine xo_2 rfl ?_
      refine xm_33 (i := 4160) (q := 66) (jSrd_ok hS (.ref 71)) ly65 rfl (xm_P (jSrd_ok hS (.ref 71)) (by decide)) ?_
      refine xo_8 ?_
      refine xo_2 rfl ?_
      refine xm_32 (i := 4165) (v := (σ.1 4165)) (jSrd_ok hS (.ref 71)) ly65 rfl ⟨Nat.le_of_ble_eq_true rfl, Nat.le_of_ble_eq_true rfl⟩ rfl ?_
      refine xo_14 ?_
      refine xo_8 ?_
      obtain ⟨hi2, h⟩ := jw_chk h
      refine xm_41 (j := (4 + (σ.1 4165)).toNatClampNeg) (jSrd_ok hS (.ref 71)) ly66 ⟨Nat.le_of_ble_eq_true rfl, Nat.le_of_ble_eq_true rfl⟩ hi2 rfl ?_
      refine xo_2 rfl ?_
      refine xm_33 (i := 4160) (q := 66) (jSrd_ok hS (.ref 71)) ly65 rfl (xm_P (jSrd_ok hS (.ref 71)) (by decide)) ?_
      refine xo_9 ?_
      refine xo_2 rfl ?_
      refine xm_32 (i := 4165) (v := (σ.1 4165)) (jSrd_ok hS (.ref 71)) ly65 rfl ⟨Nat.le_of_ble_eq_true rfl, Nat.le_of_ble_eq_true rfl⟩ rfl ?_
      refine xo_14 ?_
      refine xo_8 ?_
      obtain ⟨hi3, h⟩ := jw_chk h
      refine xm_41 (j := (10 + (σ.1 4165)).toNatClampNeg) (jSrd_ok hS (.ref 71)) ly66 ⟨Nat.le_of_ble_eq_true rfl, Nat.le_of_ble_eq_true rfl⟩ hi3 rfl ?_
      refine xo_2 rfl ?_
      refine xm_33 (i := 4160) (q := 66) (jSrd_ok hS (.ref 71)) ly65 rfl (xm_P (jSrd_ok hS (.ref 71)) (by decide)) ?_
      refine xo_9 ?_
      refine xo_2 rfl ?_
      refine xm_32 (i := 4165) (v := (σ.1 4165)) (jSrd_ok hS (.ref 71)) ly65 rfl ⟨Nat.le_of_ble_eq_true rfl, Nat.le_of_ble_eq_true rfl⟩ rfl ?_
      refine xo_14 ?_
      refine xo_8 ?_
      obtain ⟨hi4, h⟩ := jw_chk h
      refine xm_41 (j := (16 + (σ.1 4165)).toNatClampNeg) (jSrd_ok hS (.ref 71)) ly66 ⟨Nat.le_of_ble_eq_true rfl, Nat.le_of_ble_eq_true rfl⟩ hi4 rfl ?_
      refine xo_2 rfl ?_
      refine xm_33 (i := 4160) (q := 66) (jSrd_ok hS (.ref 71)) ly65 rfl (xm_P (jSrd_ok hS (.ref 71)) (by decide)) ?_
      refine xo_9 ?_
      refine xo_2 rfl ?_
      refine xm_32 (i := 4165) (v := (σ.1 4165)) (jSrd_ok hS (.ref 71)) ly65 rfl ⟨Nat.le_of_ble_eq_true rfl, Nat.le_of_ble_eq_true rfl⟩ rfl ?_
      refine xo_14 ?_
      refine xo_2 rfl ?_
      refine xm_32 (i := 4165) (v := (σ.1 4165)) (jSrd_ok hS (.ref 71)) ly65 rfl ⟨Nat.le_of_ble_eq_true rfl, Nat.le_of_ble_eq_true rfl⟩ rfl ?_
      obtain ⟨hi5, h⟩ := jw_chk h
      refine xm_41 (j := (22 + (σ.1 4165)).toNatClampNeg) (jSrd_ok hS (.ref 71)) ly66 ⟨Nat.le_of_ble_eq_true rfl, Nat.le_of_ble_eq_true rfl⟩ hi5 rfl ?_
      refine xo_2 rfl ?_
      refine xo_28r ?_
      refine xm_32 (i := 4165) (v := (σ.1 4165)) (jSrd_ok hS (.ref 71)) ly65 rfl ⟨Nat.le_of_ble_eq_true rfl, Nat.le_of_ble_eq_true rfl⟩ rfl ?_
      refine xo_8 ?_
      refine xo_14 ?_
      refine xm_34 (i := 4165) (jSrd_ok hS (.ref 71)) ly65 rfl ⟨Nat.le_of_ble_eq_true rfl, Nat.le_of_ble_eq_true rfl⟩ ?_
      refine xo_13 (ls' := [.ref 65, .int x1, w2, .int (x3 + 1), .int x4, .int x5]) rfl rfl ?_
      refine xo_54 (t := jm_b224_126) rfl ?_
      exact hk126 h
    · replace h := jw_neg hc1 h
      refine xo_2 rfl ?_
      refine xm_33 (i := 4167) (q := 70) (jSrd_ok hS (.ref 71)) ly65 rfl (xm_P (jSrd_ok hS (.ref 71)) (by decide)) ?_
      refine xo_9 ?_
      refine xo_2 rfl ?_
      refine xm_32 (i := 4165) (v := (σ.1 4165)) (jSrd_ok hS (.ref 71)) ly65 rfl ⟨Nat.le_of_ble_eq_true rfl, Nat.le_of_ble_eq_true rfl⟩ rfl ?_
      refine xo_16 ?_
      refine xo_1 rfl ?_
      refine xo_14 ?_
      refine xo_2 rfl ?_
      refine xm_33 (i := 4182) (q := 76) (jSrd_ok hS (.ref 71)) ly65 rfl (xm_P (jSrd_ok hS (.ref 71)) (by decide)) ?_
      refine xo_1 rfl ?_
      refine xo_8 ?_
      refine xo_14 ?_
      refine xo_1 rfl ?_
      refine xo_14 ?_
      obtain ⟨hi6, h⟩ := jw_chk h
      refine xm_38 (j := ((x4 + 1) + x5).toNatClampNeg) (v := (σ.2 76 ((x4 + 1) + x5).toNatClampNeg)) (jSrd_ok hS (.ref 71)) ly76 ⟨Nat.le_of_ble_eq_true rfl, Nat.le_of_ble_eq_true rfl⟩ hi6 rfl rfl ?_
      obtain ⟨hi7, h⟩ := jw_chk h
      refine xm_41 (j := ((10 * (σ.1 4165)) + x5).toNatClampNeg) (jSrd_ok hS (.ref 71)) ly70 ⟨Nat.le_of_ble_eq_true rfl, Nat.le_of_ble_eq_true rfl⟩ hi7 rfl ?_
      refine xo_13 (ls' := [.ref 65, .int x1, w2, .int x3, .int x4, .int (x5 + 1)]) rfl rfl ?_
      refine xo_54 (t := jm_b224_156) rfl ?_
      exact ih h
theorem t_X11_riders_b126 {S : jS} (hS : jMok S) {d : Nat} {Q : Option Value → jx_H → Prop} : ∀ (n : Nat) {x1 : Int32} {x3 : Int32} {w2 : Value} {w4 : Value} {w5 : Value} {σ : jT}, jw (f_X11_riders_b126 n x1 x3 σ) (fun q => ∀ rd : Value, Q (some (.int q.1)) (jh (jSrd S rd) q.2)) → jx_Ex (d + 5) jm_l224 jm_b224_126 [.ref 65, .int x1, w2, .int x3, w4, w5] [] (jh (jSrd S (.ref 71)) σ) Q := by
  intro n
  induction n with
  | zero => intro x1 x3 w2 w4 w5 σ h; exact jw_none h
  | succ n ih =>
    intro x1 x3 w2 w4 w5 σ h
    rw [f_X11_riders_b126] at h
    refine xo_0 rfl ?_
    refine xo_0 rfl ?_
    refine xo_64 (t := jm_b224_268) rfl (fun hc1 => ?_) (fun hc1 => ?_)
    · replace h := jw_pos hc1 h
      refine xo_2 rfl ?_
      refine xo_8 ?_
      refine xm_34 (i := 4189) (jSrd_ok hS (.ref 71)) ly65 rfl ⟨Nat.le_of_ble_eq_true rfl, Nat.le_of_ble_eq_true rfl⟩ ?_
      refine xo_2 rfl ?_
      refine xo_28r ?_
      refine xm_32 (i := 4208) (v := (σ.1 4208)) (jSrd_ok hS (.ref 71)) ly65 rfl ⟨Nat.le_of_ble_eq_true rfl, Nat.le_of_ble_eq_true rfl⟩ rfl ?_
      refine xo_8 ?_
      refine xo_14 ?_
      refine xm_34 (i := 4208) (jSrd_ok hS (.ref 71)) ly65 rfl ⟨Nat.le_of_ble_eq_true rfl, Nat.le_of_ble_eq_true rfl⟩ ?_
      refine xo_0 rfl ?_
      replace h := jw_some h
      exact xo_69 (h (.ref 71))
    · replace h := jw_neg hc1 h
      refine xo_9 ?_
      refine xo_0 rfl ?_
      refine xo_16 ?_
      refine xo_5 (ls' := [.ref 65, .int x1, w2, .int x3, .int (11 * x3), w5]) rfl ?_
      refine xo_2 rfl ?_
      refine xm_33 (i := 4166) (q := 69) (jSrd_ok hS (.ref 71)) ly65 rfl (xm_P (jSrd_ok hS (.ref 71)) (by decide)) ?_
      refine xo_2 rfl ?_
      refine xm_32 (i := 4165) (v := (σ.1 4165)) (jSrd_ok hS (.ref 71)) ly65 rfl ⟨Nat.le_of_ble_eq_true rfl, Nat.le_of_ble_eq_true rfl⟩ rfl ?_
      refine xo_2 rfl ?_
      refine xm_33 (i := 4182) (q := 76) (jSrd_ok hS (.ref 71)) ly65 rfl (xm_P (jSrd_ok hS (.ref 71)) (by decide)) ?_
      refine xo_1 rfl ?_
      obtain ⟨hi2, h⟩ := jw_chk h
      refine xm_38 (j := (11 * x3).toNatClampNeg) (v := (σ.2 76 (11 * x3).toNatClampNeg)) (jSrd_ok hS (.ref 71)) ly76 ⟨Nat.le_of_ble_eq_true rfl, Nat.le_of_ble_eq_true rfl⟩ hi2 rfl rfl ?_
      obtain ⟨hi3, h⟩ := jw_chk h
      refine xm_41 (j := (σ.1 4165).toNatClampNeg) (jSrd_ok hS (.ref 71)) ly69 ⟨Nat.le_of_ble_eq_true rfl, Nat.le_of_ble_eq_true rfl⟩ hi3 rfl ?_
      refine xo_8 ?_
      refine xo_5 (ls' := [.ref 65, .int x1, w2, .int x3, .int (11 * x3), .int 0]) rfl ?_
      exact t_X11_riders_b156 hS ih 1000 h
theorem t_X11_riders_b110 {S : jS} (hS : jMok S) {d : Nat} {Q : Option Value → jx_H → Prop} {x1 : Int32} {w2 : Value} {w3 : Value} {w4 : Value} {w5 : Value} {σ : jT} (h : jw (f_X11_riders_b110 x1 σ) (fun q => ∀ rd : Value, Q (some (.int q.1)) (jh (jSrd S rd) q.2))) : jx_Ex (d + 5) jm_l224 jm_b224_110 [.ref 65, .int x1, w2, w3, w4, w5] [] (jh (jSrd S (.ref 71)) σ) Q := by
  unfold f_X11_riders_b110 at h
  refine xo_2 rfl ?_
  refine xo_49 (st' := []) rfl rfl (xm_ly (jSrd_ok hS (.ref 71)) ly65) rfl (Nat.le_of_ble_eq_true rfl) ?_
  refine t_X11_fine hS ?_
  refine jw_mono (jw_bind h) (fun q1 h => ?_)
  show jx_Ex _ _ _ _ [.int q1.1] (jh (jSrd S (.ref 71)) q1.2) _
  refine xo_56 (t := jm_b224_124) rfl (fun hc2 => ?_) (fun hc2 => ?_)
  · replace h := jw_pos hc2 h
    refine xo_8 ?_
    refine xo_4 (ls' := [.ref 65, .int x1, w2, .int 0, w4, w5]) rfl ?_
    exact t_X11_riders_b126 hS 1000 h
  · replace h := jw_neg hc2 h
    refine xo_8 ?_
    refine xo_2 rfl ?_
    refine xm_32 (i := 4177) (v := (q1.2.1 4177)) (jSrd_ok hS (.ref 71)) ly65 rfl ⟨Nat.le_of_ble_eq_true rfl, Nat.le_of_ble_eq_true rfl⟩ rfl ?_
    refine xo_15 ?_
    replace h := jw_some h
    exact xo_69 (h (.ref 71))
theorem t_X11_riders_b91 {S : jS} (hS : jMok S) {d : Nat} {Q : Option Value → jx_H → Prop} {x1 : Int32} {w2 : Value} {w3 : Value} {w4 : Value} {w5 : Value} {σ : jT} (h : jw (f_X11_riders_b91 x1 σ) (fun q => ∀ rd : Value, Q (some (.int q.1)) (jh (jSrd S rd) q.2))) : jx_Ex (d + 5) jm_l224 jm_b224_91 [.ref 65, .int x1, w2, w3, w4, w5] [] (jh (jSrd S (.ref 71)) σ) Q := by
  unfold f_X11_riders_b91 at h
  refine xo_2 rfl ?_
  refine xm_32 (i := 4176) (v := (σ.1 4176)) (jSrd_ok hS (.ref 71)) ly65 rfl ⟨Nat.le_of_ble_eq_true rfl, Nat.le_of_ble_eq_true rfl⟩ rfl ?_
  refine xo_2 rfl ?_
  refine xm_32 (i := 4174) (v := (σ.1 4174)) (jSrd_ok hS (.ref 71)) ly65 rfl ⟨Nat.le_of_ble_eq_true rfl, Nat.le_of_ble_eq_true rfl⟩ rfl ?_
  refine xo_64 (t := jm_b224_110) rfl (fun hc1 => ?_) (fun hc1 => ?_)
  · replace h := jw_pos hc1 h
    exact t_X11_riders_b110 hS h
  · replace h := jw_neg hc1 h
    refine xo_2 rfl ?_
    refine xo_2 rfl ?_
    refine xm_32 (i := 4176) (v := (σ.1 4176)) (jSrd_ok hS (.ref 71)) ly65 rfl ⟨Nat.le_of_ble_eq_true rfl, Nat.le_of_ble_eq_true rfl⟩ rfl ?_
    refine xo_49 (st' := []) rfl rfl (xm_ly (jSrd_ok hS (.ref 71)) ly65) rfl (Nat.le_of_ble_eq_true rfl) ?_
    refine t_X11_fault hS ?_
    refine jw_mono (jw_bind h) (fun q2 h => ?_)
    show jx_Ex _ _ _ _ [] (jh (jSrd S (.ref 71)) q2.2) _
    exact t_X11_riders_b110 hS h
theorem t_X11_riders_b78 {S : jS} (hS : jMok S) {d : Nat} {Q : Option Value → jx_H → Prop} {k37 : Int32 → Int32 → jT → Option (Int32 × jT)} (hk37 : ∀ {x1 : Int32} {x2 : Int32} {w3 : Value} {w4 : Value} {w5 : Value} {σ : jT}, jw (k37 x1 x2 σ) (fun q => ∀ rd : Value, Q (some (.int q.1)) (jh (jSrd S rd) q.2)) → jx_Ex (d + 5) jm_l224 jm_b224_37 [.ref 65, .int x1, .int x2, w3, w4, w5] [] (jh (jSrd S (.ref 71)) σ) Q) {x1 : Int32} {w2 : Value} {w3 : Value} {w4 : Value} {w5 : Value} {σ : jT} (h : jw (f_X11_riders_b78 k37 x1 σ) (fun q => ∀ rd : Value, Q (some (.int q.1)) (jh (jSrd S rd) q.2))) : jx_Ex (d + 5) jm_l224 jm_b224_78 [.ref 65, .int x1, w2, w3, w4, w5] [] (jh (jSrd S (.ref 71)) σ) Q := by
  unfold f_X11_riders_b78 at h
  refine xo_13 (ls' := [.ref 65, .int (x1 + 1), w2, w3, w4, w5]) rfl rfl ?_
  refine xo_2 rfl ?_
  refine xo_9 ?_
  refine xo_49 (st' := []) rfl rfl (xm_ly (jSrd_ok hS (.ref 71)) ly65) rfl (Nat.le_of_ble_eq_true rfl) ?_
  refine t_X11_passes_T hS ?_
  refine jw_mono (jw_bind h) (fun q1 h => ?_)
  show jx_Ex _ _ _ _ [.int q1.1] (jh (jSrd S (.ref 71)) q1.2) _
  refine xo_4 (ls' := [.ref 65, .int (x1 + 1), .int q1.1, w3, w4, w5]) rfl ?_
  refine xo_54 (t := jm_b224_37) rfl ?_
  exact hk37 h
theorem t_X11_riders_b37 {S : jS} (hS : jMok S) {d : Nat} {Q : Option Value → jx_H → Prop} : ∀ (n : Nat) {x1 : Int32} {x2 : Int32} {w3 : Value} {w4 : Value} {w5 : Value} {σ : jT}, jw (f_X11_riders_b37 n x1 x2 σ) (fun q => ∀ rd : Value, Q (some (.int q.1)) (jh (jSrd S rd) q.2)) → jx_Ex (d + 5) jm_l224 jm_b224_37 [.ref 65, .int x1, .int x2, w3, w4, w5] [] (jh (jSrd S (.ref 71)) σ) Q := by
  intro n
  induction n with
  | zero => intro x1 x2 w3 w4 w5 σ h; exact jw_none h
  | succ n ih =>
    intro x1 x2 w3 w4 w5 σ h
    rw [f_X11_riders_b37] at h
    refine xo_0 rfl ?_
    refine xo_55 (t := jm_b224_91) rfl (fun hc1 => ?_) (fun hc1 => ?_)
    · replace h := jw_pos hc1 h
      exact t_X11_riders_b91 hS h
    · replace h := jw_neg hc1 h
      refine xo_2 rfl ?_
      refine xo_49 (st' := []) rfl rfl (xm_ly (jSrd_ok hS (.ref 71)) ly65) rfl (Nat.le_of_ble_eq_true rfl) ?_
      refine t_X11_fine hS ?_
      refine jw_mono (jw_bind h) (fun q2 h => ?_)
      show jx_Ex _ _ _ _ [.int q2.1] (jh (jSrd S (.ref 71)) q2.2) _
      refine xo_55 (t := jm_b224_91) rfl (fun hc3 => ?_) (fun hc3 => ?_)
      · replace h := jw_pos hc3 h
        exact t_X11_riders_b91 hS h
      · replace h := jw_neg hc3 h
        refine xo_2 rfl ?_
        refine xm_32 (i := 4165) (v := (q2.2.1 4165)) (jSrd_ok hS (.ref 71)) ly65 rfl ⟨Nat.le_of_ble_eq_true rfl, Nat.le_of_ble_eq_true rfl⟩ rfl ?_
        refine xo_0 rfl ?_
        refine xo_14 ?_
        refine xo_9 ?_
        refine xo_62 (t := jm_b224_70) rfl (fun hc4 => ?_) (fun hc4 => ?_)
        · replace h := jw_pos hc4 h
          refine xo_2 rfl ?_
          refine xo_9 ?_
          refine xo_0 rfl ?_
          refine xo_16 ?_
          refine xo_49 (st' := []) rfl rfl (xm_ly (jSrd_ok hS (.ref 71)) ly65) rfl (Nat.le_of_ble_eq_true rfl) ?_
          refine t_X11_readRider_T hS ?_
          refine jw_mono (jw_bind h) (fun q5 h => ?_)
          show jx_Ex _ _ _ _ [] (jh (jSrd S (.ref 71)) q5.2) _
          exact t_X11_riders_b78 hS ih h
        · replace h := jw_neg hc4 h
          refine xo_2 rfl ?_
          refine xo_2 rfl ?_
          refine xm_32 (i := 4176) (v := (q2.2.1 4176)) (jSrd_ok hS (.ref 71)) ly65 rfl ⟨Nat.le_of_ble_eq_true rfl, Nat.le_of_ble_eq_true rfl⟩ rfl ?_
          refine xo_49 (st' := []) rfl rfl (xm_ly (jSrd_ok hS (.ref 71)) ly65) rfl (Nat.le_of_ble_eq_true rfl) ?_
          refine t_X11_fault hS ?_
          refine jw_mono (jw_bind h) (fun q6 h => ?_)
          show jx_Ex _ _ _ _ [] (jh (jSrd S (.ref 71)) q6.2) _
          refine xo_54 (t := jm_b224_78) rfl ?_
          exact t_X11_riders_b78 hS ih h
theorem t_X11_riders {S : jS} (hS : jMok S) {d : Nat} {Q : Option Value → jx_H → Prop} {rd : Value} {σ : jT} (h : jw (f_X11_riders σ) (fun q => ∀ rd : Value, Q (some (.int q.1)) (jh (jSrd S rd) q.2))) : jx_Sp (d + 5) 224 [.ref 65] (jh (jSrd S rd) σ) Q := by
  refine ⟨jm_i224, jm_at224, rfl, rfl, ?_⟩
  show jx_Ex _ jm_l224 jm_b224_0 [.ref 65, .retAddr 0, .retAddr 0, .retAddr 0, .retAddr 0, .retAddr 0] [] _ _
  unfold f_X11_riders at h
  refine xo_2 rfl ?_
  refine xo_8 ?_
  refine xm_34 (i := 4172) (jSrd_ok hS rd) ly65 rfl ⟨Nat.le_of_ble_eq_true rfl, Nat.le_of_ble_eq_true rfl⟩ ?_
  refine xo_2 rfl ?_
  refine xo_2 rfl ?_
  refine xm_33 (i := 4168) (q := 71) (jSrd_ok hS rd) ly65 rfl (xm_P (jSrd_ok hS rd) (by decide)) ?_
  refine xo_2 rfl ?_
  refine xm_32 (i := 4169) (v := (σ.1 4169)) (jSrd_ok hS rd) ly65 rfl ⟨Nat.le_of_ble_eq_true rfl, Nat.le_of_ble_eq_true rfl⟩ rfl ?_
  refine xo_9 ?_
  refine xo_49 (st' := []) rfl rfl (xm_ly (jSrd_ok hS rd) ly65) rfl (Nat.le_of_ble_eq_true rfl) ?_
  refine t_X11_begin_71 hS ?_
  refine jw_mono (jw_bind h) (fun q1 h => ?_)
  show jx_Ex _ _ _ _ [] (jh (jSrd S (.ref 71)) q1.2) _
  refine xo_2 rfl ?_
  refine xo_8 ?_
  refine xm_34 (i := 4169) (jSrd_ok hS (.ref 71)) ly65 rfl ⟨Nat.le_of_ble_eq_true rfl, Nat.le_of_ble_eq_true rfl⟩ ?_
  refine xo_2 rfl ?_
  refine xm_32 (i := 4174) (v := (q1.2.1 4174)) (jSrd_ok hS (.ref 71)) ly65 rfl ⟨Nat.le_of_ble_eq_true rfl, Nat.le_of_ble_eq_true rfl⟩ rfl ?_
  refine xo_56 (t := jm_b224_33) rfl (fun hc2 => ?_) (fun hc2 => ?_)
  · replace h := jw_pos hc2 h
    refine xo_8 ?_
    refine xo_4 (ls' := [.ref 65, .int 0, .retAddr 0, .retAddr 0, .retAddr 0, .retAddr 0]) rfl ?_
    refine xo_8 ?_
    refine xo_4 (ls' := [.ref 65, .int 0, .int 1, .retAddr 0, .retAddr 0, .retAddr 0]) rfl ?_
    exact t_X11_riders_b37 hS 1000 h
  · replace h := jw_neg hc2 h
    refine xo_8 ?_
    replace h := jw_some h
    exact xo_69 (h (.ref 71))
/-- OfDifferentMindsModel.held, at ['m', 'int'] T -/
def f_X11_held_T (rec : Nat → List Int32 → jT → Option (Int32 × jT)) (x1 : Int32) (σ : jT) : Option (Int32 × jT) :=
  (rec 0 [x1] σ).bind fun q1 =>
  (f_X11_passes_T 60 q1.2).bind fun q2 =>
  if q2.1 = 0 then
    (f_X11_passes_T 62 q2.2).bind fun q4 =>
    if q4.1 = 0 then
      (f_X11_passes_T 61 q4.2).bind fun q6 =>
      if q6.1 = 0 then
        some (q1.1, q6.2)
      else
        (rec 0 [x1] q6.2).bind fun q8 =>
        if ¬ q1.1 = q8.1 then
          some (0, q8.2)
        else
          some (1, q8.2)
    else
      (rec 0 [x1] q4.2).bind fun q10 =>
      if q1.1 ≤ q10.1 then
        some (0, q10.2)
      else
        some (1, q10.2)
  else
    (rec 0 [x1] q2.2).bind fun q12 =>
    if q12.1 ≤ q1.1 then
      some (0, q12.2)
    else
      some (1, q12.2)
theorem t_X11_held_T {S : jS} (hS : jMok S) {d : Nat} {Q : Option Value → jx_H → Prop} {rec : Nat → List Int32 → jT → Option (Int32 × jT)} (hrec_X11_sum_T : ∀ {x1 : Int32} {σ : jT} {Q : Option Value → jx_H → Prop}, jw (rec 0 [x1] σ) (fun q => Q (some (.int q.1)) (jh (jSrd S (.ref 71)) q.2)) → jx_Sp (d + 3) 226 [.ref 65, .int x1] (jh (jSrd S (.ref 71)) σ) Q) {x1 : Int32} {σ : jT} (h : jw (f_X11_held_T rec x1 σ) (fun q => Q (some (.int q.1)) (jh (jSrd S (.ref 71)) q.2))) : jx_Sp (d + 4) 225 [.ref 65, .int x1] (jh (jSrd S (.ref 71)) σ) Q := by
  refine ⟨jm_i225, jm_at225, rfl, rfl, ?_⟩
  show jx_Ex _ jm_l225 jm_b225_0 [.ref 65, .int x1, .retAddr 0] [] _ _
  unfold f_X11_held_T at h
  refine xo_2 rfl ?_
  refine xo_0 rfl ?_
  refine xo_49 (st' := []) rfl rfl (xm_ly (jSrd_ok hS (.ref 71)) ly65) rfl (Nat.le_of_ble_eq_true rfl) ?_
  refine hrec_X11_sum_T ?_
  refine jw_mono (jw_bind h) (fun q1 h => ?_)
  show jx_Ex _ _ _ _ [.int q1.1] (jh (jSrd S (.ref 71)) q1.2) _
  refine xo_4 (ls' := [.ref 65, .int x1, .int q1.1]) rfl ?_
  refine xo_2 rfl ?_
  refine xo_9 ?_
  refine xo_49 (st' := []) rfl rfl (xm_ly (jSrd_ok hS (.ref 71)) ly65) rfl (Nat.le_of_ble_eq_true rfl) ?_
  refine t_X11_passes_T hS ?_
  refine jw_mono (jw_bind h) (fun q2 h => ?_)
  show jx_Ex _ _ _ _ [.int q2.1] (jh (jSrd S (.ref 71)) q2.2) _
  refine xo_55 (t := jm_b225_30) rfl (fun hc3 => ?_) (fun hc3 => ?_)
  · replace h := jw_pos hc3 h
    refine xo_2 rfl ?_
    refine xo_9 ?_
    refine xo_49 (st' := []) rfl rfl (xm_ly (jSrd_ok hS (.ref 71)) ly65) rfl (Nat.le_of_ble_eq_true rfl) ?_
    refine t_X11_passes_T hS ?_
    refine jw_mono (jw_bind h) (fun q4 h => ?_)
    show jx_Ex _ _ _ _ [.int q4.1] (jh (jSrd S (.ref 71)) q4.2) _
    refine xo_55 (t := jm_b225_54) rfl (fun hc5 => ?_) (fun hc5 => ?_)
    · replace h := jw_pos hc5 h
      refine xo_2 rfl ?_
      refine xo_9 ?_
      refine xo_49 (st' := []) rfl rfl (xm_ly (jSrd_ok hS (.ref 71)) ly65) rfl (Nat.le_of_ble_eq_true rfl) ?_
      refine t_X11_passes_T hS ?_
      refine jw_mono (jw_bind h) (fun q6 h => ?_)
      show jx_Ex _ _ _ _ [.int q6.1] (jh (jSrd S (.ref 71)) q6.2) _
      refine xo_55 (t := jm_b225_78) rfl (fun hc7 => ?_) (fun hc7 => ?_)
      · replace h := jw_pos hc7 h
        refine xo_0 rfl ?_
        replace h := jw_some h
        exact xo_69 h
      · replace h := jw_neg hc7 h
        refine xo_0 rfl ?_
        refine xo_2 rfl ?_
        refine xo_0 rfl ?_
        refine xo_49 (st' := [.int q1.1]) rfl rfl (xm_ly (jSrd_ok hS (.ref 71)) ly65) rfl (Nat.le_of_ble_eq_true rfl) ?_
        refine hrec_X11_sum_T ?_
        refine jw_mono (jw_bind h) (fun q8 h => ?_)
        show jx_Ex _ _ _ _ [.int q8.1, .int q1.1] (jh (jSrd S (.ref 71)) q8.2) _
        refine xo_62 (t := jm_b225_76) rfl (fun hc9 => ?_) (fun hc9 => ?_)
        · replace h := jw_pos hc9 h
          refine xo_8 ?_
          replace h := jw_some h
          exact xo_69 h
        · replace h := jw_neg hc9 h
          refine xo_8 ?_
          refine xo_54 (t := jm_b225_77) rfl ?_
          replace h := jw_some h
          exact xo_69 h
    · replace h := jw_neg hc5 h
      refine xo_0 rfl ?_
      refine xo_2 rfl ?_
      refine xo_0 rfl ?_
      refine xo_49 (st' := [.int q1.1]) rfl rfl (xm_ly (jSrd_ok hS (.ref 71)) ly65) rfl (Nat.le_of_ble_eq_true rfl) ?_
      refine hrec_X11_sum_T ?_
      refine jw_mono (jw_bind h) (fun q10 h => ?_)
      show jx_Ex _ _ _ _ [.int q10.1, .int q1.1] (jh (jSrd S (.ref 71)) q10.2) _
      refine xo_66 (t := jm_b225_52) rfl (fun hc11 => ?_) (fun hc11 => ?_)
      · replace h := jw_pos hc11 h
        refine xo_8 ?_
        replace h := jw_some h
        exact xo_69 h
      · replace h := jw_neg hc11 h
        refine xo_8 ?_
        refine xo_54 (t := jm_b225_53) rfl ?_
        replace h := jw_some h
        exact xo_69 h
  · replace h := jw_neg hc3 h
    refine xo_0 rfl ?_
    refine xo_2 rfl ?_
    refine xo_0 rfl ?_
    refine xo_49 (st' := [.int q1.1]) rfl rfl (xm_ly (jSrd_ok hS (.ref 71)) ly65) rfl (Nat.le_of_ble_eq_true rfl) ?_
    refine hrec_X11_sum_T ?_
    refine jw_mono (jw_bind h) (fun q12 h => ?_)
    show jx_Ex _ _ _ _ [.int q12.1, .int q1.1] (jh (jSrd S (.ref 71)) q12.2) _
    refine xo_64 (t := jm_b225_28) rfl (fun hc13 => ?_) (fun hc13 => ?_)
    · replace h := jw_pos hc13 h
      refine xo_8 ?_
      replace h := jw_some h
      exact xo_69 h
    · replace h := jw_neg hc13 h
      refine xo_8 ?_
      refine xo_54 (t := jm_b225_29) rfl ?_
      replace h := jw_some h
      exact xo_69 h
/-- OfDifferentMindsModel.sum, at ['m', 'int'] T -/
def f_X11_sum_T_b78 (rec : Nat → List Int32 → jT → Option (Int32 × jT)) (k6 : Int32 → Int32 → jT → Option (Int32 × jT)) (x1 : Int32) (s0 : Int32) (σ : jT) : Option (Int32 × jT) :=
  k6 x1 s0 σ
def f_X11_sum_T_b45 (rec : Nat → List Int32 → jT → Option (Int32 × jT)) (k6 : Int32 → Int32 → jT → Option (Int32 × jT)) (x1 : Int32) (x2 : Int32) (s0 : Int32) (σ : jT) : Option (Int32 × jT) :=
  (rec 1 [x1] (gs σ 4176 ((σ.1 4176) + 1))).bind fun q1 =>
  if s0 = 0 then
    f_X11_sum_T_b78 rec k6 x1 (x2 - q1.1) q1.2
  else
    f_X11_sum_T_b78 rec k6 x1 (x2 + q1.1) q1.2
def f_X11_sum_T_b31 (rec : Nat → List Int32 → jT → Option (Int32 × jT)) (k6 : Int32 → Int32 → jT → Option (Int32 × jT)) (x1 : Int32) (x2 : Int32) (σ : jT) : Option (Int32 × jT) :=
  (f_X11_here_T σ).bind fun q1 =>
  if ¬ q1.1 = 43 then
    f_X11_sum_T_b45 rec k6 x1 x2 0 q1.2
  else
    f_X11_sum_T_b45 rec k6 x1 x2 1 q1.2
def f_X11_sum_T_b6 (rec : Nat → List Int32 → jT → Option (Int32 × jT)) : Nat → Int32 → Int32 → jT → Option (Int32 × jT)
  | 0, _, _, _ => none
  | n + 1, x1, x2, σ =>
    (f_X11_fine σ).bind fun q1 =>
    if q1.1 = 0 then
      some (x2, q1.2)
    else
      (f_X11_here_T q1.2).bind fun q3 =>
      if q3.1 = 43 then
        f_X11_sum_T_b31 rec (f_X11_sum_T_b6 rec n) x1 x2 q3.2
      else
        (f_X11_here_T q3.2).bind fun q5 =>
        if ¬ q5.1 = 45 then
          some (x2, q5.2)
        else
          f_X11_sum_T_b31 rec (f_X11_sum_T_b6 rec n) x1 x2 q5.2
def f_X11_sum_T (rec : Nat → List Int32 → jT → Option (Int32 × jT)) (x1 : Int32) (σ : jT) : Option (Int32 × jT) :=
  (rec 1 [x1] σ).bind fun q1 =>
  f_X11_sum_T_b6 rec 1000 x1 q1.1 q1.2
theorem t_X11_sum_T_b78 {S : jS} (hS : jMok S) {d : Nat} {Q : Option Value → jx_H → Prop} {rec : Nat → List Int32 → jT → Option (Int32 × jT)} (hrec_X11_product_T : ∀ {x1 : Int32} {σ : jT} {Q : Option Value → jx_H → Prop}, jw (rec 1 [x1] σ) (fun q => Q (some (.int q.1)) (jh (jSrd S (.ref 71)) q.2)) → jx_Sp (d + 3) 227 [.ref 65, .int x1] (jh (jSrd S (.ref 71)) σ) Q) {k6 : Int32 → Int32 → jT → Option (Int32 × jT)} (hk6 : ∀ {x1 : Int32} {x2 : Int32} {w3 : Value} {w4 : Value} {σ : jT}, jw (k6 x1 x2 σ) (fun q => Q (some (.int q.1)) (jh (jSrd S (.ref 71)) q.2)) → jx_Ex (d + 4) jm_l226 jm_b226_6 [.ref 65, .int x1, .int x2, w3, w4] [] (jh (jSrd S (.ref 71)) σ) Q) {x1 : Int32} {s0 : Int32} {w2 : Value} {w3 : Value} {w4 : Value} {σ : jT} (h : jw (f_X11_sum_T_b78 rec k6 x1 s0 σ) (fun q => Q (some (.int q.1)) (jh (jSrd S (.ref 71)) q.2))) : jx_Ex (d + 4) jm_l226 jm_b226_78 [.ref 65, .int x1, w2, w3, w4] [.int s0] (jh (jSrd S (.ref 71)) σ) Q := by
  unfold f_X11_sum_T_b78 at h
  refine xo_4 (ls' := [.ref 65, .int x1, .int s0, w3, w4]) rfl ?_
  refine xo_54 (t := jm_b226_6) rfl ?_
  exact hk6 h
theorem t_X11_sum_T_b45 {S : jS} (hS : jMok S) {d : Nat} {Q : Option Value → jx_H → Prop} {rec : Nat → List Int32 → jT → Option (Int32 × jT)} (hrec_X11_product_T : ∀ {x1 : Int32} {σ : jT} {Q : Option Value → jx_H → Prop}, jw (rec 1 [x1] σ) (fun q => Q (some (.int q.1)) (jh (jSrd S (.ref 71)) q.2)) → jx_Sp (d + 3) 227 [.ref 65, .int x1] (jh (jSrd S (.ref 71)) σ) Q) {k6 : Int32 → Int32 → jT → Option (Int32 × jT)} (hk6 : ∀ {x1 : Int32} {x2 : Int32} {w3 : Value} {w4 : Value} {σ : jT}, jw (k6 x1 x2 σ) (fun q => Q (some (.int q.1)) (jh (jSrd S (.ref 71)) q.2)) → jx_Ex (d + 4) jm_l226 jm_b226_6 [.ref 65, .int x1, .int x2, w3, w4] [] (jh (jSrd S (.ref 71)) σ) Q) {x1 : Int32} {x2 : Int32} {s0 : Int32} {w3 : Value} {w4 : Value} {σ : jT} (h : jw (f_X11_sum_T_b45 rec k6 x1 x2 s0 σ) (fun q => Q (some (.int q.1)) (jh (jSrd S (.ref 71)) q.2))) : jx_Ex (d + 4) jm_l226 jm_b226_45 [.ref 65, .int x1, .int x2, w3, w4] [.int s0] (jh (jSrd S (.ref 71)) σ) Q := by
  unfold f_X11_sum_T_b45 at h
  refine xo_4 (ls' := [.ref 65, .int x1, .int x2, .int s0, w4]) rfl ?_
  refine xo_2 rfl ?_
  refine xo_28r ?_
  refine xm_32 (i := 4176) (v := (σ.1 4176)) (jSrd_ok hS (.ref 71)) ly65 rfl ⟨Nat.le_of_ble_eq_true rfl, Nat.le_of_ble_eq_true rfl⟩ rfl ?_
  refine xo_8 ?_
  refine xo_14 ?_
  refine xm_34 (i := 4176) (jSrd_ok hS (.ref 71)) ly65 rfl ⟨Nat.le_of_ble_eq_true rfl, Nat.le_of_ble_eq_true rfl⟩ ?_
  refine xo_2 rfl ?_
  refine xo_0 rfl ?_
  refine xo_49 (st' := []) rfl rfl (xm_ly (jSrd_ok hS (.ref 71)) ly65) rfl (Nat.le_of_ble_eq_true rfl) ?_
  refine hrec_X11_product_T ?_
  refine jw_mono (jw_bind h) (fun q1 h => ?_)
  show jx_Ex _ _ _ _ [.int q1.1] (jh (jSrd S (.ref 71)) q1.2) _
  refine xo_5 (ls' := [.ref 65, .int x1, .int x2, .int s0, .int q1.1]) rfl ?_
  refine xo_0 rfl ?_
  refine xo_55 (t := jm_b226_74) rfl (fun hc2 => ?_) (fun hc2 => ?_)
  · replace h := jw_pos hc2 h
    refine xo_0 rfl ?_
    refine xo_1 rfl ?_
    refine xo_15 ?_
    exact t_X11_sum_T_b78 hS hrec_X11_product_T hk6 h
  · replace h := jw_neg hc2 h
    refine xo_0 rfl ?_
    refine xo_1 rfl ?_
    refine xo_14 ?_
    refine xo_54 (t := jm_b226_78) rfl ?_
    exact t_X11_sum_T_b78 hS hrec_X11_product_T hk6 h
theorem t_X11_sum_T_b31 {S : jS} (hS : jMok S) {d : Nat} {Q : Option Value → jx_H → Prop} {rec : Nat → List Int32 → jT → Option (Int32 × jT)} (hrec_X11_product_T : ∀ {x1 : Int32} {σ : jT} {Q : Option Value → jx_H → Prop}, jw (rec 1 [x1] σ) (fun q => Q (some (.int q.1)) (jh (jSrd S (.ref 71)) q.2)) → jx_Sp (d + 3) 227 [.ref 65, .int x1] (jh (jSrd S (.ref 71)) σ) Q) {k6 : Int32 → Int32 → jT → Option (Int32 × jT)} (hk6 : ∀ {x1 : Int32} {x2 : Int32} {w3 : Value} {w4 : Value} {σ : jT}, jw (k6 x1 x2 σ) (fun q => Q (some (.int q.1)) (jh (jSrd S (.ref 71)) q.2)) → jx_Ex (d + 4) jm_l226 jm_b226_6 [.ref 65, .int x1, .int x2, w3, w4] [] (jh (jSrd S (.ref 71)) σ) Q) {x1 : Int32} {x2 : Int32} {w3 : Value} {w4 : Value} {σ : jT} (h : jw (f_X11_sum_T_b31 rec k6 x1 x2 σ) (fun q => Q (some (.int q.1)) (jh (jSrd S (.ref 71)) q.2))) : jx_Ex (d + 4) jm_l226 jm_b226_31 [.ref 65, .int x1, .int x2, w3, w4] [] (jh (jSrd S (.ref 71)) σ) Q := by
  unfold f_X11_sum_T_b31 at h
  refine xo_2 rfl ?_
  refine xo_49 (st' := []) rfl rfl (xm_ly (jSrd_ok hS (.ref 71)) ly65) rfl (Nat.le_of_ble_eq_true rfl) ?_
  refine t_X11_here_T hS ?_
  refine jw_mono (jw_bind h) (fun q1 h => ?_)
  show jx_Ex _ _ _ _ [.int q1.1] (jh (jSrd S (.ref 71)) q1.2) _
  refine xo_9 ?_
  refine xo_62 (t := jm_b226_44) rfl (fun hc2 => ?_) (fun hc2 => ?_)
  · replace h := jw_pos hc2 h
    refine xo_8 ?_
    exact t_X11_sum_T_b45 hS hrec_X11_product_T hk6 h
  · replace h := jw_neg hc2 h
    refine xo_8 ?_
    refine xo_54 (t := jm_b226_45) rfl ?_
    exact t_X11_sum_T_b45 hS hrec_X11_product_T hk6 h
theorem t_X11_sum_T_b6 {S : jS} (hS : jMok S) {d : Nat} {Q : Option Value → jx_H → Prop} {rec : Nat → List Int32 → jT → Option (Int32 × jT)} (hrec_X11_product_T : ∀ {x1 : Int32} {σ : jT} {Q : Option Value → jx_H → Prop}, jw (rec 1 [x1] σ) (fun q => Q (some (.int q.1)) (jh (jSrd S (.ref 71)) q.2)) → jx_Sp (d + 3) 227 [.ref 65, .int x1] (jh (jSrd S (.ref 71)) σ) Q) : ∀ (n : Nat) {x1 : Int32} {x2 : Int32} {w3 : Value} {w4 : Value} {σ : jT}, jw (f_X11_sum_T_b6 rec n x1 x2 σ) (fun q => Q (some (.int q.1)) (jh (jSrd S (.ref 71)) q.2)) → jx_Ex (d + 4) jm_l226 jm_b226_6 [.ref 65, .int x1, .int x2, w3, w4] [] (jh (jSrd S (.ref 71)) σ) Q := by
  intro n
  induction n with
  | zero => intro x1 x2 w3 w4 σ h; exact jw_none h
  | succ n ih =>
    intro x1 x2 w3 w4 σ h
    rw [f_X11_sum_T_b6] at h
    refine xo_2 rfl ?_
    refine xo_49 (st' := []) rfl rfl (xm_ly (jSrd_ok hS (.ref 71)) ly65) rfl (Nat.le_of_ble_eq_true rfl) ?_
    refine t_X11_fine hS ?_
    refine jw_mono (jw_bind h) (fun q1 h => ?_)
    show jx_Ex _ _ _ _ [.int q1.1] (jh (jSrd S (.ref 71)) q1.2) _
    refine xo_55 (t := jm_b226_82) rfl (fun hc2 => ?_) (fun hc2 => ?_)
    · replace h := jw_pos hc2 h
      refine xo_0 rfl ?_
      replace h := jw_some h
      exact xo_69 h
    · replace h := jw_neg hc2 h
      refine xo_2 rfl ?_
      refine xo_49 (st' := []) rfl rfl (xm_ly (jSrd_ok hS (.ref 71)) ly65) rfl (Nat.le_of_ble_eq_true rfl) ?_
      refine t_X11_here_T hS ?_
      refine jw_mono (jw_bind h) (fun q3 h => ?_)
      show jx_Ex _ _ _ _ [.int q3.1] (jh (jSrd S (.ref 71)) q3.2) _
      refine xo_9 ?_
      refine xo_61 (t := jm_b226_31) rfl (fun hc4 => ?_) (fun hc4 => ?_)
      · replace h := jw_pos hc4 h
        exact t_X11_sum_T_b31 hS hrec_X11_product_T ih h
      · replace h := jw_neg hc4 h
        refine xo_2 rfl ?_
        refine xo_49 (st' := []) rfl rfl (xm_ly (jSrd_ok hS (.ref 71)) ly65) rfl (Nat.le_of_ble_eq_true rfl) ?_
        refine t_X11_here_T hS ?_
        refine jw_mono (jw_bind h) (fun q5 h => ?_)
        show jx_Ex _ _ _ _ [.int q5.1] (jh (jSrd S (.ref 71)) q5.2) _
        refine xo_9 ?_
        refine xo_62 (t := jm_b226_82) rfl (fun hc6 => ?_) (fun hc6 => ?_)
        · replace h := jw_pos hc6 h
          refine xo_0 rfl ?_
          replace h := jw_some h
          exact xo_69 h
        · replace h := jw_neg hc6 h
          exact t_X11_sum_T_b31 hS hrec_X11_product_T ih h
theorem t_X11_sum_T {S : jS} (hS : jMok S) {d : Nat} {Q : Option Value → jx_H → Prop} {rec : Nat → List Int32 → jT → Option (Int32 × jT)} (hrec_X11_product_T : ∀ {x1 : Int32} {σ : jT} {Q : Option Value → jx_H → Prop}, jw (rec 1 [x1] σ) (fun q => Q (some (.int q.1)) (jh (jSrd S (.ref 71)) q.2)) → jx_Sp (d + 3) 227 [.ref 65, .int x1] (jh (jSrd S (.ref 71)) σ) Q) {x1 : Int32} {σ : jT} (h : jw (f_X11_sum_T rec x1 σ) (fun q => Q (some (.int q.1)) (jh (jSrd S (.ref 71)) q.2))) : jx_Sp (d + 4) 226 [.ref 65, .int x1] (jh (jSrd S (.ref 71)) σ) Q := by
  refine ⟨jm_i226, jm_at226, rfl, rfl, ?_⟩
  show jx_Ex _ jm_l226 jm_b226_0 [.ref 65, .int x1, .retAddr 0, .retAddr 0, .retAddr 0] [] _ _
  unfold f_X11_sum_T at h
  refine xo_2 rfl ?_
  refine xo_0 rfl ?_
  refine xo_49 (st' := []) rfl rfl (xm_ly (jSrd_ok hS (.ref 71)) ly65) rfl (Nat.le_of_ble_eq_true rfl) ?_
  refine hrec_X11_product_T ?_
  refine jw_mono (jw_bind h) (fun q1 h => ?_)
  show jx_Ex _ _ _ _ [.int q1.1] (jh (jSrd S (.ref 71)) q1.2) _
  refine xo_4 (ls' := [.ref 65, .int x1, .int q1.1, .retAddr 0, .retAddr 0]) rfl ?_
  exact t_X11_sum_T_b6 hS hrec_X11_product_T 1000 h
/-- OfDifferentMindsModel.product, at ['m', 'int'] T -/
def f_X11_product_T_b87 (rec : Nat → List Int32 → jT → Option (Int32 × jT)) (k6 : Int32 → Int32 → jT → Option (Int32 × jT)) (x1 : Int32) (s0 : Int32) (σ : jT) : Option (Int32 × jT) :=
  k6 x1 s0 σ
def f_X11_product_T_b45 (rec : Nat → List Int32 → jT → Option (Int32 × jT)) (k6 : Int32 → Int32 → jT → Option (Int32 × jT)) (x1 : Int32) (x2 : Int32) (s0 : Int32) (σ : jT) : Option (Int32 × jT) :=
  (rec 2 [x1] (gs σ 4176 ((σ.1 4176) + 1))).bind fun q1 =>
  if s0 = 0 then
    if ¬ q1.1 = 0 then
      if q1.1 = 0 then none else
      f_X11_product_T_b87 rec k6 x1 (x2 / q1.1) q1.2
    else
      f_X11_product_T_b87 rec k6 x1 0 q1.2
  else
    f_X11_product_T_b87 rec k6 x1 (x2 * q1.1) q1.2
def f_X11_product_T_b31 (rec : Nat → List Int32 → jT → Option (Int32 × jT)) (k6 : Int32 → Int32 → jT → Option (Int32 × jT)) (x1 : Int32) (x2 : Int32) (σ : jT) : Option (Int32 × jT) :=
  (f_X11_here_T σ).bind fun q1 =>
  if ¬ q1.1 = 42 then
    f_X11_product_T_b45 rec k6 x1 x2 0 q1.2
  else
    f_X11_product_T_b45 rec k6 x1 x2 1 q1.2
def f_X11_product_T_b6 (rec : Nat → List Int32 → jT → Option (Int32 × jT)) : Nat → Int32 → Int32 → jT → Option (Int32 × jT)
  | 0, _, _, _ => none
  | n + 1, x1, x2, σ =>
    (f_X11_fine σ).bind fun q1 =>
    if q1.1 = 0 then
      some (x2, q1.2)
    else
      (f_X11_here_T q1.2).bind fun q3 =>
      if q3.1 = 42 then
        f_X11_product_T_b31 rec (f_X11_product_T_b6 rec n) x1 x2 q3.2
      else
        (f_X11_here_T q3.2).bind fun q5 =>
        if ¬ q5.1 = 47 then
          some (x2, q5.2)
        else
          f_X11_product_T_b31 rec (f_X11_product_T_b6 rec n) x1 x2 q5.2
def f_X11_product_T (rec : Nat → List Int32 → jT → Option (Int32 × jT)) (x1 : Int32) (σ : jT) : Option (Int32 × jT) :=
  (rec 2 [x1] σ).bind fun q1 =>
  f_X11_product_T_b6 rec 1000 x1 q1.1 q1.2
theorem t_X11_product_T_b87 {S : jS} (hS : jMok S) {d : Nat} {Q : Option Value → jx_H → Prop} {rec : Nat → List Int32 → jT → Option (Int32 × jT)} (hrec_X11_thing_T : ∀ {x1 : Int32} {σ : jT} {Q : Option Value → jx_H → Prop}, jw (rec 2 [x1] σ) (fun q => Q (some (.int q.1)) (jh (jSrd S (.ref 71)) q.2)) → jx_Sp (d + 3) 229 [.ref 65, .int x1] (jh (jSrd S (.ref 71)) σ) Q) {k6 : Int32 → Int32 → jT → Option (Int32 × jT)} (hk6 : ∀ {x1 : Int32} {x2 : Int32} {w3 : Value} {w4 : Value} {σ : jT}, jw (k6 x1 x2 σ) (fun q => Q (some (.int q.1)) (jh (jSrd S (.ref 71)) q.2)) → jx_Ex (d + 4) jm_l227 jm_b227_6 [.ref 65, .int x1, .int x2, w3, w4] [] (jh (jSrd S (.ref 71)) σ) Q) {x1 : Int32} {s0 : Int32} {w2 : Value} {w3 : Value} {w4 : Value} {σ : jT} (h : jw (f_X11_product_T_b87 rec k6 x1 s0 σ) (fun q => Q (some (.int q.1)) (jh (jSrd S (.ref 71)) q.2))) : jx_Ex (d + 4) jm_l227 jm_b227_87 [.ref 65, .int x1, w2, w3, w4] [.int s0] (jh (jSrd S (.ref 71)) σ) Q := by
  unfold f_X11_product_T_b87 at h
  refine xo_4 (ls' := [.ref 65, .int x1, .int s0, w3, w4]) rfl ?_
  refine xo_54 (t := jm_b227_6) rfl ?_
  exact hk6 h
theorem t_X11_product_T_b45 {S : jS} (hS : jMok S) {d : Nat} {Q : Option Value → jx_H → Prop} {rec : Nat → List Int32 → jT → Option (Int32 × jT)} (hrec_X11_thing_T : ∀ {x1 : Int32} {σ : jT} {Q : Option Value → jx_H → Prop}, jw (rec 2 [x1] σ) (fun q => Q (some (.int q.1)) (jh (jSrd S (.ref 71)) q.2)) → jx_Sp (d + 3) 229 [.ref 65, .int x1] (jh (jSrd S (.ref 71)) σ) Q) {k6 : Int32 → Int32 → jT → Option (Int32 × jT)} (hk6 : ∀ {x1 : Int32} {x2 : Int32} {w3 : Value} {w4 : Value} {σ : jT}, jw (k6 x1 x2 σ) (fun q => Q (some (.int q.1)) (jh (jSrd S (.ref 71)) q.2)) → jx_Ex (d + 4) jm_l227 jm_b227_6 [.ref 65, .int x1, .int x2, w3, w4] [] (jh (jSrd S (.ref 71)) σ) Q) {x1 : Int32} {x2 : Int32} {s0 : Int32} {w3 : Value} {w4 : Value} {σ : jT} (h : jw (f_X11_product_T_b45 rec k6 x1 x2 s0 σ) (fun q => Q (some (.int q.1)) (jh (jSrd S (.ref 71)) q.2))) : jx_Ex (d + 4) jm_l227 jm_b227_45 [.ref 65, .int x1, .int x2, w3, w4] [.int s0] (jh (jSrd S (.ref 71)) σ) Q := by
  unfold f_X11_product_T_b45 at h
  refine xo_4 (ls' := [.ref 65, .int x1, .int x2, .int s0, w4]) rfl ?_
  refine xo_2 rfl ?_
  refine xo_28r ?_
  refine xm_32 (i := 4176) (v := (σ.1 4176)) (jSrd_ok hS (.ref 71)) ly65 rfl ⟨Nat.le_of_ble_eq_true rfl, Nat.le_of_ble_eq_true rfl⟩ rfl ?_
  refine xo_8 ?_
  refine xo_14 ?_
  refine xm_34 (i := 4176) (jSrd_ok hS (.ref 71)) ly65 rfl ⟨Nat.le_of_ble_eq_true rfl, Nat.le_of_ble_eq_true rfl⟩ ?_
  refine xo_2 rfl ?_
  refine xo_0 rfl ?_
  refine xo_49 (st' := []) rfl rfl (xm_ly (jSrd_ok hS (.ref 71)) ly65) rfl (Nat.le_of_ble_eq_true rfl) ?_
  refine hrec_X11_thing_T ?_
  refine jw_mono (jw_bind h) (fun q1 h => ?_)
  show jx_Ex _ _ _ _ [.int q1.1] (jh (jSrd S (.ref 71)) q1.2) _
  refine xo_5 (ls' := [.ref 65, .int x1, .int x2, .int s0, .int q1.1]) rfl ?_
  refine xo_0 rfl ?_
  refine xo_55 (t := jm_b227_74) rfl (fun hc2 => ?_) (fun hc2 => ?_)
  · replace h := jw_pos hc2 h
    refine xo_1 rfl ?_
    refine xo_56 (t := jm_b227_83) rfl (fun hc3 => ?_) (fun hc3 => ?_)
    · replace h := jw_pos hc3 h
      refine xo_0 rfl ?_
      refine xo_1 rfl ?_
      obtain ⟨hy4, h⟩ := jw_chn h
      refine xo_17 hy4 ?_
      exact t_X11_product_T_b87 hS hrec_X11_thing_T hk6 h
    · replace h := jw_neg hc3 h
      refine xo_8 ?_
      refine xo_54 (t := jm_b227_87) rfl ?_
      exact t_X11_product_T_b87 hS hrec_X11_thing_T hk6 h
  · replace h := jw_neg hc2 h
    refine xo_0 rfl ?_
    refine xo_1 rfl ?_
    refine xo_16 ?_
    refine xo_54 (t := jm_b227_87) rfl ?_
    exact t_X11_product_T_b87 hS hrec_X11_thing_T hk6 h
theorem t_X11_product_T_b31 {S : jS} (hS : jMok S) {d : Nat} {Q : Option Value → jx_H → Prop} {rec : Nat → List Int32 → jT → Option (Int32 × jT)} (hrec_X11_thing_T : ∀ {x1 : Int32} {σ : jT} {Q : Option Value → jx_H → Prop}, jw (rec 2 [x1] σ) (fun q => Q (some (.int q.1)) (jh (jSrd S (.ref 71)) q.2)) → jx_Sp (d + 3) 229 [.ref 65, .int x1] (jh (jSrd S (.ref 71)) σ) Q) {k6 : Int32 → Int32 → jT → Option (Int32 × jT)} (hk6 : ∀ {x1 : Int32} {x2 : Int32} {w3 : Value} {w4 : Value} {σ : jT}, jw (k6 x1 x2 σ) (fun q => Q (some (.int q.1)) (jh (jSrd S (.ref 71)) q.2)) → jx_Ex (d + 4) jm_l227 jm_b227_6 [.ref 65, .int x1, .int x2, w3, w4] [] (jh (jSrd S (.ref 71)) σ) Q) {x1 : Int32} {x2 : Int32} {w3 : Value} {w4 : Value} {σ : jT} (h : jw (f_X11_product_T_b31 rec k6 x1 x2 σ) (fun q => Q (some (.int q.1)) (jh (jSrd S (.ref 71)) q.2))) : jx_Ex (d + 4) jm_l227 jm_b227_31 [.ref 65, .int x1, .int x2, w3, w4] [] (jh (jSrd S (.ref 71)) σ) Q := by
  unfold f_X11_product_T_b31 at h
  refine xo_2 rfl ?_
  refine xo_49 (st' := []) rfl rfl (xm_ly (jSrd_ok hS (.ref 71)) ly65) rfl (Nat.le_of_ble_eq_true rfl) ?_
  refine t_X11_here_T hS ?_
  refine jw_mono (jw_bind h) (fun q1 h => ?_)
  show jx_Ex _ _ _ _ [.int q1.1] (jh (jSrd S (.ref 71)) q1.2) _
  refine xo_9 ?_
  refine xo_62 (t := jm_b227_44) rfl (fun hc2 => ?_) (fun hc2 => ?_)
  · replace h := jw_pos hc2 h
    refine xo_8 ?_
    exact t_X11_product_T_b45 hS hrec_X11_thing_T hk6 h
  · replace h := jw_neg hc2 h
    refine xo_8 ?_
    refine xo_54 (t := jm_b227_45) rfl ?_
    exact t_X11_product_T_b45 hS hrec_X11_thing_T hk6 h
theorem t_X11_product_T_b6 {S : jS} (hS : jMok S) {d : Nat} {Q : Option Value → jx_H → Prop} {rec : Nat → List Int32 → jT → Option (Int32 × jT)} (hrec_X11_thing_T : ∀ {x1 : Int32} {σ : jT} {Q : Option Value → jx_H → Prop}, jw (rec 2 [x1] σ) (fun q => Q (some (.int q.1)) (jh (jSrd S (.ref 71)) q.2)) → jx_Sp (d + 3) 229 [.ref 65, .int x1] (jh (jSrd S (.ref 71)) σ) Q) : ∀ (n : Nat) {x1 : Int32} {x2 : Int32} {w3 : Value} {w4 : Value} {σ : jT}, jw (f_X11_product_T_b6 rec n x1 x2 σ) (fun q => Q (some (.int q.1)) (jh (jSrd S (.ref 71)) q.2)) → jx_Ex (d + 4) jm_l227 jm_b227_6 [.ref 65, .int x1, .int x2, w3, w4] [] (jh (jSrd S (.ref 71)) σ) Q := by
  intro n
  induction n with
  | zero => intro x1 x2 w3 w4 σ h; exact jw_none h
  | succ n ih =>
    intro x1 x2 w3 w4 σ h
    rw [f_X11_product_T_b6] at h
    refine xo_2 rfl ?_
    refine xo_49 (st' := []) rfl rfl (xm_ly (jSrd_ok hS (.ref 71)) ly65) rfl (Nat.le_of_ble_eq_true rfl) ?_
    refine t_X11_fine hS ?_
    refine jw_mono (jw_bind h) (fun q1 h => ?_)
    show jx_Ex _ _ _ _ [.int q1.1] (jh (jSrd S (.ref 71)) q1.2) _
    refine xo_55 (t := jm_b227_91) rfl (fun hc2 => ?_) (fun hc2 => ?_)
    · replace h := jw_pos hc2 h
      refine xo_0 rfl ?_
      replace h := jw_some h
      exact xo_69 h
    · replace h := jw_neg hc2 h
      refine xo_2 rfl ?_
      refine xo_49 (st' := []) rfl rfl (xm_ly (jSrd_ok hS (.ref 71)) ly65) rfl (Nat.le_of_ble_eq_true rfl) ?_
      refine t_X11_here_T hS ?_
      refine jw_mono (jw_bind h) (fun q3 h => ?_)
      show jx_Ex _ _ _ _ [.int q3.1] (jh (jSrd S (.ref 71)) q3.2) _
      refine xo_9 ?_
      refine xo_61 (t := jm_b227_31) rfl (fun hc4 => ?_) (fun hc4 => ?_)
      · replace h := jw_pos hc4 h
        exact t_X11_product_T_b31 hS hrec_X11_thing_T ih h
      · replace h := jw_neg hc4 h
        refine xo_2 rfl ?_
        refine xo_49 (st' := []) rfl rfl (xm_ly (jSrd_ok hS (.ref 71)) ly65) rfl (Nat.le_of_ble_eq_true rfl) ?_
        refine t_X11_here_T hS ?_
        refine jw_mono (jw_bind h) (fun q5 h => ?_)
        show jx_Ex _ _ _ _ [.int q5.1] (jh (jSrd S (.ref 71)) q5.2) _
        refine xo_9 ?_
        refine xo_62 (t := jm_b227_91) rfl (fun hc6 => ?_) (fun hc6 => ?_)
        · replace h := jw_pos hc6 h
          refine xo_0 rfl ?_
          replace h := jw_some h
          exact xo_69 h
        · replace h := jw_neg hc6 h
          exact t_X11_product_T_b31 hS hrec_X11_thing_T ih h
theorem t_X11_product_T {S : jS} (hS : jMok S) {d : Nat} {Q : Option Value → jx_H → Prop} {rec : Nat → List Int32 → jT → Option (Int32 × jT)} (hrec_X11_thing_T : ∀ {x1 : Int32} {σ : jT} {Q : Option Value → jx_H → Prop}, jw (rec 2 [x1] σ) (fun q => Q (some (.int q.1)) (jh (jSrd S (.ref 71)) q.2)) → jx_Sp (d + 3) 229 [.ref 65, .int x1] (jh (jSrd S (.ref 71)) σ) Q) {x1 : Int32} {σ : jT} (h : jw (f_X11_product_T rec x1 σ) (fun q => Q (some (.int q.1)) (jh (jSrd S (.ref 71)) q.2))) : jx_Sp (d + 4) 227 [.ref 65, .int x1] (jh (jSrd S (.ref 71)) σ) Q := by
  refine ⟨jm_i227, jm_at227, rfl, rfl, ?_⟩
  show jx_Ex _ jm_l227 jm_b227_0 [.ref 65, .int x1, .retAddr 0, .retAddr 0, .retAddr 0] [] _ _
  unfold f_X11_product_T at h
  refine xo_2 rfl ?_
  refine xo_0 rfl ?_
  refine xo_49 (st' := []) rfl rfl (xm_ly (jSrd_ok hS (.ref 71)) ly65) rfl (Nat.le_of_ble_eq_true rfl) ?_
  refine hrec_X11_thing_T ?_
  refine jw_mono (jw_bind h) (fun q1 h => ?_)
  show jx_Ex _ _ _ _ [.int q1.1] (jh (jSrd S (.ref 71)) q1.2) _
  refine xo_4 (ls' := [.ref 65, .int x1, .int q1.1, .retAddr 0, .retAddr 0]) rfl ?_
  exact t_X11_product_T_b6 hS hrec_X11_thing_T 1000 h
/-- OfDifferentMindsModel.letterOf, at ['int'] K -/
def f_X11_letterOf (x0 : Int32) (σ : jT) : Option (Int32 × jT) :=
  if ¬ x0 = 97 then
    if ¬ x0 = 98 then
      if ¬ x0 = 107 then
        if ¬ x0 = 112 then
          if ¬ x0 = 115 then
            if ¬ x0 = 109 then
              if ¬ x0 = 110 then
                some ((-1), σ)
              else
                some (6, σ)
            else
              some (5, σ)
          else
            some (4, σ)
        else
          some (3, σ)
      else
        some (2, σ)
    else
      some (1, σ)
  else
    some (0, σ)
theorem t_X11_letterOf {S : jS} (hS : jMok S) {d : Nat} {Q : Option Value → jx_H → Prop} {rd : Value} {x0 : Int32} {σ : jT} (h : jw (f_X11_letterOf x0 σ) (fun q => Q (some (.int q.1)) (jh (jSrd S rd) q.2))) : jx_Sp (d) 228 [.int x0] (jh (jSrd S rd) σ) Q := by
  refine ⟨jm_i228, jm_at228, rfl, rfl, ?_⟩
  show jx_Ex _ jm_l228 jm_b228_0 [.int x0] [] _ _
  unfold f_X11_letterOf at h
  refine xo_0 rfl ?_
  refine xo_9 ?_
  refine xo_62 (t := jm_b228_10) rfl (fun hc1 => ?_) (fun hc1 => ?_)
  · replace h := jw_pos hc1 h
    refine xo_0 rfl ?_
    refine xo_9 ?_
    refine xo_62 (t := jm_b228_20) rfl (fun hc2 => ?_) (fun hc2 => ?_)
    · replace h := jw_pos hc2 h
      refine xo_0 rfl ?_
      refine xo_9 ?_
      refine xo_62 (t := jm_b228_30) rfl (fun hc3 => ?_) (fun hc3 => ?_)
      · replace h := jw_pos hc3 h
        refine xo_0 rfl ?_
        refine xo_9 ?_
        refine xo_62 (t := jm_b228_40) rfl (fun hc4 => ?_) (fun hc4 => ?_)
        · replace h := jw_pos hc4 h
          refine xo_0 rfl ?_
          refine xo_9 ?_
          refine xo_62 (t := jm_b228_50) rfl (fun hc5 => ?_) (fun hc5 => ?_)
          · replace h := jw_pos hc5 h
            refine xo_0 rfl ?_
            refine xo_9 ?_
            refine xo_62 (t := jm_b228_60) rfl (fun hc6 => ?_) (fun hc6 => ?_)
            · replace h := jw_pos hc6 h
              refine xo_0 rfl ?_
              refine xo_9 ?_
              refine xo_62 (t := jm_b228_71) rfl (fun hc7 => ?_) (fun hc7 => ?_)
              · replace h := jw_pos hc7 h
                refine xo_8 ?_
                replace h := jw_some h
                exact xo_69 h
              · replace h := jw_neg hc7 h
                refine xo_9 ?_
                refine xo_54 (t := jm_b228_72) rfl ?_
                replace h := jw_some h
                exact xo_69 h
            · replace h := jw_neg hc6 h
              refine xo_8 ?_
              refine xo_54 (t := jm_b228_72) rfl ?_
              replace h := jw_some h
              exact xo_69 h
          · replace h := jw_neg hc5 h
            refine xo_8 ?_
            refine xo_54 (t := jm_b228_72) rfl ?_
            replace h := jw_some h
            exact xo_69 h
        · replace h := jw_neg hc4 h
          refine xo_8 ?_
          refine xo_54 (t := jm_b228_72) rfl ?_
          replace h := jw_some h
          exact xo_69 h
      · replace h := jw_neg hc3 h
        refine xo_8 ?_
        refine xo_54 (t := jm_b228_72) rfl ?_
        replace h := jw_some h
        exact xo_69 h
    · replace h := jw_neg hc2 h
      refine xo_8 ?_
      refine xo_54 (t := jm_b228_72) rfl ?_
      replace h := jw_some h
      exact xo_69 h
  · replace h := jw_neg hc1 h
    refine xo_8 ?_
    refine xo_54 (t := jm_b228_72) rfl ?_
    replace h := jw_some h
    exact xo_69 h
/-- OfDifferentMindsModel.thing, at ['m', 'int'] T -/
def f_X11_thing_T_b67 (rec : Nat → List Int32 → jT → Option (Int32 × jT)) (x2 : Int32) (σ : jT) : Option (Int32 × jT) :=
  (f_X11_in x2 48 57 σ).bind fun q1 =>
  if q1.1 = 0 then
    (f_X11_letterOf x2 q1.2).bind fun q3 =>
    if ¬ q3.1 = (-1) then
      if (q3.2.1 4185) = 0 then
        some (0, (gs q3.2 4176 ((q3.2.1 4176) + 1)))
      else
        (f_X11_letterOf x2 (gs q3.2 4176 ((q3.2.1 4176) + 1))).bind fun q6 =>
        if jx_in q6.1 7 then
        some ((q6.2.2 78 q6.1.toNatClampNeg), q6.2)
        else none
    else
      (f_X11_fault (q3.2.1 4176) q3.2).bind fun q8 =>
      some (0, q8.2)
  else
    (f_X11_number_T 3 q1.2).bind fun q9 =>
    some (q9.1, q9.2)
def f_X11_thing_T (rec : Nat → List Int32 → jT → Option (Int32 × jT)) (x1 : Int32) (σ : jT) : Option (Int32 × jT) :=
  (f_X11_passes_T 45 σ).bind fun q1 =>
  if q1.1 = 0 then
    (f_X11_fine q1.2).bind fun q3 =>
    if ¬ q3.1 = 0 then
      (f_X11_here_T q3.2).bind fun q5 =>
      if ¬ q5.1 = 40 then
        f_X11_thing_T_b67 rec q5.1 q5.2
      else
        if 4 ≤ x1 then
          f_X11_thing_T_b67 rec q5.1 q5.2
        else
          (rec 3 [(x1 + 1)] (gs q5.2 4176 ((q5.2.1 4176) + 1))).bind fun q8 =>
          (f_X11_need_T 41 q8.2).bind fun q9 =>
          some (q8.1, q9.2)
    else
      some (0, q3.2)
  else
    (rec 2 [x1] q1.2).bind fun q10 =>
    some ((-q10.1), q10.2)
theorem t_X11_thing_T_b67 {S : jS} (hS : jMok S) {d : Nat} {Q : Option Value → jx_H → Prop} {rec : Nat → List Int32 → jT → Option (Int32 × jT)} (hrec_X11_held_T : ∀ {x1 : Int32} {σ : jT} {Q : Option Value → jx_H → Prop}, jw (rec 3 [x1] σ) (fun q => Q (some (.int q.1)) (jh (jSrd S (.ref 71)) q.2)) → jx_Sp (d + 3) 225 [.ref 65, .int x1] (jh (jSrd S (.ref 71)) σ) Q) (hrec_X11_thing_T : ∀ {x1 : Int32} {σ : jT} {Q : Option Value → jx_H → Prop}, jw (rec 2 [x1] σ) (fun q => Q (some (.int q.1)) (jh (jSrd S (.ref 71)) q.2)) → jx_Sp (d + 3) 229 [.ref 65, .int x1] (jh (jSrd S (.ref 71)) σ) Q) {x2 : Int32} {w1 : Value} {w3 : Value} {σ : jT} (h : jw (f_X11_thing_T_b67 rec x2 σ) (fun q => Q (some (.int q.1)) (jh (jSrd S (.ref 71)) q.2))) : jx_Ex (d + 4) jm_l229 jm_b229_67 [.ref 65, w1, .int x2, w3] [] (jh (jSrd S (.ref 71)) σ) Q := by
  unfold f_X11_thing_T_b67 at h
  refine xo_0 rfl ?_
  refine xo_9 ?_
  refine xo_9 ?_
  refine xo_50 (st' := []) rfl rfl rfl (Nat.le_of_ble_eq_true rfl) ?_
  refine t_X11_in hS ?_
  refine jw_mono (jw_bind h) (fun q1 h => ?_)
  show jx_Ex _ _ _ _ [.int q1.1] (jh (jSrd S (.ref 71)) q1.2) _
  refine xo_55 (t := jm_b229_84) rfl (fun hc2 => ?_) (fun hc2 => ?_)
  · replace h := jw_pos hc2 h
    refine xo_0 rfl ?_
    refine xo_50 (st' := []) rfl rfl rfl (Nat.le_of_ble_eq_true rfl) ?_
    refine t_X11_letterOf hS ?_
    refine jw_mono (jw_bind h) (fun q3 h => ?_)
    show jx_Ex _ _ _ _ [.int q3.1] (jh (jSrd S (.ref 71)) q3.2) _
    refine xo_8 ?_
    refine xo_62 (t := jm_b229_102) rfl (fun hc4 => ?_) (fun hc4 => ?_)
    · replace h := jw_pos hc4 h
      refine xo_2 rfl ?_
      refine xo_28r ?_
      refine xm_32 (i := 4176) (v := (q3.2.1 4176)) (jSrd_ok hS (.ref 71)) ly65 rfl ⟨Nat.le_of_ble_eq_true rfl, Nat.le_of_ble_eq_true rfl⟩ rfl ?_
      refine xo_8 ?_
      refine xo_14 ?_
      refine xm_34 (i := 4176) (jSrd_ok hS (.ref 71)) ly65 rfl ⟨Nat.le_of_ble_eq_true rfl, Nat.le_of_ble_eq_true rfl⟩ ?_
      refine xo_2 rfl ?_
      refine xm_32 (i := 4185) (v := (q3.2.1 4185)) (jSrd_ok hS (.ref 71)) ly65 rfl ⟨Nat.le_of_ble_eq_true rfl, Nat.le_of_ble_eq_true rfl⟩ rfl ?_
      refine xo_55 (t := jm_b229_131) rfl (fun hc5 => ?_) (fun hc5 => ?_)
      · replace h := jw_pos hc5 h
        refine xo_8 ?_
        replace h := jw_some h
        exact xo_69 h
      · replace h := jw_neg hc5 h
        refine xo_2 rfl ?_
        refine xm_33 (i := 4186) (q := 78) (jSrd_ok hS (.ref 71)) ly65 rfl (xm_P (jSrd_ok hS (.ref 71)) (by decide)) ?_
        refine xo_0 rfl ?_
        refine xo_50 (st' := [.ref 78]) rfl rfl rfl (Nat.le_of_ble_eq_true rfl) ?_
        refine t_X11_letterOf hS ?_
        refine jw_mono (jw_bind h) (fun q6 h => ?_)
        show jx_Ex _ _ _ _ [.int q6.1, .ref 78] (jh (jSrd S (.ref 71)) q6.2) _
        obtain ⟨hi7, h⟩ := jw_chk h
        refine xm_38 (j := q6.1.toNatClampNeg) (v := (q6.2.2 78 q6.1.toNatClampNeg)) (jSrd_ok hS (.ref 71)) ly78 ⟨Nat.le_of_ble_eq_true rfl, Nat.le_of_ble_eq_true rfl⟩ hi7 rfl rfl ?_
        refine xo_54 (t := jm_b229_132) rfl ?_
        replace h := jw_some h
        exact xo_69 h
    · replace h := jw_neg hc4 h
      refine xo_2 rfl ?_
      refine xo_2 rfl ?_
      refine xm_32 (i := 4176) (v := (q3.2.1 4176)) (jSrd_ok hS (.ref 71)) ly65 rfl ⟨Nat.le_of_ble_eq_true rfl, Nat.le_of_ble_eq_true rfl⟩ rfl ?_
      refine xo_49 (st' := []) rfl rfl (xm_ly (jSrd_ok hS (.ref 71)) ly65) rfl (Nat.le_of_ble_eq_true rfl) ?_
      refine t_X11_fault hS ?_
      refine jw_mono (jw_bind h) (fun q8 h => ?_)
      show jx_Ex _ _ _ _ [] (jh (jSrd S (.ref 71)) q8.2) _
      refine xo_8 ?_
      replace h := jw_some h
      exact xo_69 h
  · replace h := jw_neg hc2 h
    refine xo_2 rfl ?_
    refine xo_8 ?_
    refine xo_49 (st' := []) rfl rfl (xm_ly (jSrd_ok hS (.ref 71)) ly65) rfl (Nat.le_of_ble_eq_true rfl) ?_
    refine t_X11_number_T hS ?_
    refine jw_mono (jw_bind h) (fun q9 h => ?_)
    show jx_Ex _ _ _ _ [.int q9.1] (jh (jSrd S (.ref 71)) q9.2) _
    replace h := jw_some h
    exact xo_69 h
theorem t_X11_thing_T {S : jS} (hS : jMok S) {d : Nat} {Q : Option Value → jx_H → Prop} {rec : Nat → List Int32 → jT → Option (Int32 × jT)} (hrec_X11_held_T : ∀ {x1 : Int32} {σ : jT} {Q : Option Value → jx_H → Prop}, jw (rec 3 [x1] σ) (fun q => Q (some (.int q.1)) (jh (jSrd S (.ref 71)) q.2)) → jx_Sp (d + 3) 225 [.ref 65, .int x1] (jh (jSrd S (.ref 71)) σ) Q) (hrec_X11_thing_T : ∀ {x1 : Int32} {σ : jT} {Q : Option Value → jx_H → Prop}, jw (rec 2 [x1] σ) (fun q => Q (some (.int q.1)) (jh (jSrd S (.ref 71)) q.2)) → jx_Sp (d + 3) 229 [.ref 65, .int x1] (jh (jSrd S (.ref 71)) σ) Q) {x1 : Int32} {σ : jT} (h : jw (f_X11_thing_T rec x1 σ) (fun q => Q (some (.int q.1)) (jh (jSrd S (.ref 71)) q.2))) : jx_Sp (d + 4) 229 [.ref 65, .int x1] (jh (jSrd S (.ref 71)) σ) Q := by
  refine ⟨jm_i229, jm_at229, rfl, rfl, ?_⟩
  show jx_Ex _ jm_l229 jm_b229_0 [.ref 65, .int x1, .retAddr 0, .retAddr 0] [] _ _
  unfold f_X11_thing_T at h
  refine xo_2 rfl ?_
  refine xo_9 ?_
  refine xo_49 (st' := []) rfl rfl (xm_ly (jSrd_ok hS (.ref 71)) ly65) rfl (Nat.le_of_ble_eq_true rfl) ?_
  refine t_X11_passes_T hS ?_
  refine jw_mono (jw_bind h) (fun q1 h => ?_)
  show jx_Ex _ _ _ _ [.int q1.1] (jh (jSrd S (.ref 71)) q1.2) _
  refine xo_55 (t := jm_b229_16) rfl (fun hc2 => ?_) (fun hc2 => ?_)
  · replace h := jw_pos hc2 h
    refine xo_2 rfl ?_
    refine xo_49 (st' := []) rfl rfl (xm_ly (jSrd_ok hS (.ref 71)) ly65) rfl (Nat.le_of_ble_eq_true rfl) ?_
    refine t_X11_fine hS ?_
    refine jw_mono (jw_bind h) (fun q3 h => ?_)
    show jx_Ex _ _ _ _ [.int q3.1] (jh (jSrd S (.ref 71)) q3.2) _
    refine xo_56 (t := jm_b229_25) rfl (fun hc4 => ?_) (fun hc4 => ?_)
    · replace h := jw_pos hc4 h
      refine xo_2 rfl ?_
      refine xo_49 (st' := []) rfl rfl (xm_ly (jSrd_ok hS (.ref 71)) ly65) rfl (Nat.le_of_ble_eq_true rfl) ?_
      refine t_X11_here_T hS ?_
      refine jw_mono (jw_bind h) (fun q5 h => ?_)
      show jx_Ex _ _ _ _ [.int q5.1] (jh (jSrd S (.ref 71)) q5.2) _
      refine xo_4 (ls' := [.ref 65, .int x1, .int q5.1, .retAddr 0]) rfl ?_
      refine xo_0 rfl ?_
      refine xo_9 ?_
      refine xo_62 (t := jm_b229_67) rfl (fun hc6 => ?_) (fun hc6 => ?_)
      · replace h := jw_pos hc6 h
        exact t_X11_thing_T_b67 hS hrec_X11_held_T hrec_X11_thing_T h
      · replace h := jw_neg hc6 h
        refine xo_0 rfl ?_
        refine xo_8 ?_
        refine xo_64 (t := jm_b229_67) rfl (fun hc7 => ?_) (fun hc7 => ?_)
        · replace h := jw_pos hc7 h
          exact t_X11_thing_T_b67 hS hrec_X11_held_T hrec_X11_thing_T h
        · replace h := jw_neg hc7 h
          refine xo_2 rfl ?_
          refine xo_28r ?_
          refine xm_32 (i := 4176) (v := (q5.2.1 4176)) (jSrd_ok hS (.ref 71)) ly65 rfl ⟨Nat.le_of_ble_eq_true rfl, Nat.le_of_ble_eq_true rfl⟩ rfl ?_
          refine xo_8 ?_
          refine xo_14 ?_
          refine xm_34 (i := 4176) (jSrd_ok hS (.ref 71)) ly65 rfl ⟨Nat.le_of_ble_eq_true rfl, Nat.le_of_ble_eq_true rfl⟩ ?_
          refine xo_2 rfl ?_
          refine xo_0 rfl ?_
          refine xo_8 ?_
          refine xo_14 ?_
          refine xo_49 (st' := []) rfl rfl (xm_ly (jSrd_ok hS (.ref 71)) ly65) rfl (Nat.le_of_ble_eq_true rfl) ?_
          refine hrec_X11_held_T ?_
          refine jw_mono (jw_bind h) (fun q8 h => ?_)
          show jx_Ex _ _ _ _ [.int q8.1] (jh (jSrd S (.ref 71)) q8.2) _
          refine xo_4 (ls' := [.ref 65, .int x1, .int q5.1, .int q8.1]) rfl ?_
          refine xo_2 rfl ?_
          refine xo_9 ?_
          refine xo_49 (st' := []) rfl rfl (xm_ly (jSrd_ok hS (.ref 71)) ly65) rfl (Nat.le_of_ble_eq_true rfl) ?_
          refine t_X11_need_T hS ?_
          refine jw_mono (jw_bind h) (fun q9 h => ?_)
          show jx_Ex _ _ _ _ [] (jh (jSrd S (.ref 71)) q9.2) _
          refine xo_0 rfl ?_
          replace h := jw_some h
          exact xo_69 h
    · replace h := jw_neg hc4 h
      refine xo_8 ?_
      replace h := jw_some h
      exact xo_69 h
  · replace h := jw_neg hc2 h
    refine xo_2 rfl ?_
    refine xo_0 rfl ?_
    refine xo_49 (st' := []) rfl rfl (xm_ly (jSrd_ok hS (.ref 71)) ly65) rfl (Nat.le_of_ble_eq_true rfl) ?_
    refine hrec_X11_thing_T ?_
    refine jw_mono (jw_bind h) (fun q10 h => ?_)
    show jx_Ex _ _ _ _ [.int q10.1] (jh (jSrd S (.ref 71)) q10.2) _
    refine xo_19 ?_
    replace h := jw_some h
    exact xo_69 h
def f_rec2 : Nat → Nat → List Int32 → jT → Option (Int32 × jT)
  | 0, _, _, _ => none
  | n + 1, 0, [x1], σ => f_X11_sum_T (f_rec2 n) x1 σ
  | n + 1, 1, [x1], σ => f_X11_product_T (f_rec2 n) x1 σ
  | n + 1, 2, [x1], σ => f_X11_thing_T (f_rec2 n) x1 σ
  | n + 1, 3, [x1], σ => f_X11_held_T (f_rec2 n) x1 σ
  | _ + 1, _, _, _ => none
theorem t_rec2 {S : jS} (hS : jMok S) : ∀ (n : Nat), (∀ {x1 : Int32} {σ : jT} {Q : Option Value → jx_H → Prop}, jw (f_rec2 n 0 [x1] σ) (fun q => Q (some (.int q.1)) (jh (jSrd S (.ref 71)) q.2)) → jx_Sp (n + 3) 226 [.ref 65, .int x1] (jh (jSrd S (.ref 71)) σ) Q) ∧ (∀ {x1 : Int32} {σ : jT} {Q : Option Value → jx_H → Prop}, jw (f_rec2 n 1 [x1] σ) (fun q => Q (some (.int q.1)) (jh (jSrd S (.ref 71)) q.2)) → jx_Sp (n + 3) 227 [.ref 65, .int x1] (jh (jSrd S (.ref 71)) σ) Q) ∧ (∀ {x1 : Int32} {σ : jT} {Q : Option Value → jx_H → Prop}, jw (f_rec2 n 2 [x1] σ) (fun q => Q (some (.int q.1)) (jh (jSrd S (.ref 71)) q.2)) → jx_Sp (n + 3) 229 [.ref 65, .int x1] (jh (jSrd S (.ref 71)) σ) Q) ∧ (∀ {x1 : Int32} {σ : jT} {Q : Option Value → jx_H → Prop}, jw (f_rec2 n 3 [x1] σ) (fun q => Q (some (.int q.1)) (jh (jSrd S (.ref 71)) q.2)) → jx_Sp (n + 3) 225 [.ref 65, .int x1] (jh (jSrd S (.ref 71)) σ) Q) := by
  intro n
  induction n with
  | zero => exact ⟨fun h => jw_none h, fun h => jw_none h, fun h => jw_none h, fun h => jw_none h⟩
  | succ n ih =>
    obtain ⟨hr0, hr1, hr2, hr3⟩ := ih
    have g0 : (∀ {x1 : Int32} {σ : jT} {Q : Option Value → jx_H → Prop}, jw (f_rec2 (n + 1) 0 [x1] σ) (fun q => Q (some (.int q.1)) (jh (jSrd S (.ref 71)) q.2)) → jx_Sp (n + 1 + 3) 226 [.ref 65, .int x1] (jh (jSrd S (.ref 71)) σ) Q) := by
      intro x1 σ Q h
      rw [show n + 1 + 3 = n + 4 by omega]
      exact t_X11_sum_T hS hr1 h
    have g1 : (∀ {x1 : Int32} {σ : jT} {Q : Option Value → jx_H → Prop}, jw (f_rec2 (n + 1) 1 [x1] σ) (fun q => Q (some (.int q.1)) (jh (jSrd S (.ref 71)) q.2)) → jx_Sp (n + 1 + 3) 227 [.ref 65, .int x1] (jh (jSrd S (.ref 71)) σ) Q) := by
      intro x1 σ Q h
      rw [show n + 1 + 3 = n + 4 by omega]
      exact t_X11_product_T hS hr2 h
    have g2 : (∀ {x1 : Int32} {σ : jT} {Q : Option Value → jx_H → Prop}, jw (f_rec2 (n + 1) 2 [x1] σ) (fun q => Q (some (.int q.1)) (jh (jSrd S (.ref 71)) q.2)) → jx_Sp (n + 1 + 3) 229 [.ref 65, .int x1] (jh (jSrd S (.ref 71)) σ) Q) := by
      intro x1 σ Q h
      rw [show n + 1 + 3 = n + 4 by omega]
      exact t_X11_thing_T hS hr3 hr2 h
    have g3 : (∀ {x1 : Int32} {σ : jT} {Q : Option Value → jx_H → Prop}, jw (f_rec2 (n + 1) 3 [x1] σ) (fun q => Q (some (.int q.1)) (jh (jSrd S (.ref 71)) q.2)) → jx_Sp (n + 1 + 3) 225 [.ref 65, .int x1] (jh (jSrd S (.ref 71)) σ) Q) := by
      intro x1 σ Q h
      rw [show n + 1 + 3 = n + 4 by omega]
      exact t_X11_held_T hS hr0 h
    exact ⟨g0, g1, g2, g3⟩
theorem tr_X11_sum_T {S : jS} (hS : jMok S) {d : Nat} {x1 : Int32} {σ : jT} {Q : Option Value → jx_H → Prop} (h : jw (f_rec2 100 0 [x1] σ) (fun q => Q (some (.int q.1)) (jh (jSrd S (.ref 71)) q.2))) : jx_Sp (d + 103) 226 [.ref 65, .int x1] (jh (jSrd S (.ref 71)) σ) Q := jx_Sp.mono (by omega) ((t_rec2 hS 100).1 h)
theorem tr_X11_product_T {S : jS} (hS : jMok S) {d : Nat} {x1 : Int32} {σ : jT} {Q : Option Value → jx_H → Prop} (h : jw (f_rec2 100 1 [x1] σ) (fun q => Q (some (.int q.1)) (jh (jSrd S (.ref 71)) q.2))) : jx_Sp (d + 103) 227 [.ref 65, .int x1] (jh (jSrd S (.ref 71)) σ) Q := jx_Sp.mono (by omega) ((t_rec2 hS 100).2.1 h)
theorem tr_X11_thing_T {S : jS} (hS : jMok S) {d : Nat} {x1 : Int32} {σ : jT} {Q : Option Value → jx_H → Prop} (h : jw (f_rec2 100 2 [x1] σ) (fun q => Q (some (.int q.1)) (jh (jSrd S (.ref 71)) q.2))) : jx_Sp (d + 103) 229 [.ref 65, .int x1] (jh (jSrd S (.ref 71)) σ) Q := jx_Sp.mono (by omega) ((t_rec2 hS 100).2.2.1 h)
theorem tr_X11_held_T {S : jS} (hS : jMok S) {d : Nat} {x1 : Int32} {σ : jT} {Q : Option Value → jx_H → Prop} (h : jw (f_rec2 100 3 [x1] σ) (fun q => Q (some (.int q.1)) (jh (jSrd S (.ref 71)) q.2))) : jx_Sp (d + 103) 225 [.ref 65, .int x1] (jh (jSrd S (.ref 71)) σ) Q := jx_Sp.mono (by omega) ((t_rec2 hS 100).2.2.2 h)
