/-! ===== methods as functions ===== -/
/-- OfDifferentMinds.prints, at ['x'] -/
def f_X10_prints_b69 (x1 : Int32) (σ : jT) : Option (Int32 × jT) :=
  (f_X9_clear σ).bind fun q1 =>
  if ¬ x1 = (-1) then
    some (((-1) - x1), q1.2)
  else
    some ((q1.2.1 12), q1.2)
def f_X10_prints_b38 : Nat → Int32 → Int32 → jT → Option (Int32 × jT)
  | 0, _, _, _ => none
  | n + 1, x1, x2, σ =>
    if (σ.1 12) ≤ x2 then
      f_X10_prints_b69 x1 σ
    else
      (f_X9_at x2 σ).bind fun q2 =>
      if jx_in x2 20 then
      f_X10_prints_b38 n x1 (x2 + 1) (gA q2.2 62 x2.toNatClampNeg (q2.1 - 97))
      else none
def f_X10_prints (σ : jT) : Option (Int32 × jT) :=
  (f_X3_places σ).bind fun q1 =>
  (f_X1_inPrints_1 q1.1 q1.2).bind fun q2 =>
  if ¬ q2.1 = (-1) then
    f_X10_prints_b69 q2.1 q2.2
  else
    (f_X9_length q2.2).bind fun q4 =>
    f_X10_prints_b38 1000 q2.1 0 (gs q4.2 12 (jx_min q4.1 20))
theorem t_X10_prints_b69 {S : jS} (hS : jCok S) {d : Nat} {Q : Option Value → jx_H → Prop} {x1 : Int32} {w2 : Value} {σ : jT} (h : jw (f_X10_prints_b69 x1 σ) (fun q => Q (some (.int q.1)) (jh S q.2))) : jx_Ex (d + 4) jm_l181 jm_b181_69 [.ref 0, .int x1, w2] [] (jh S σ) Q := by
  unfold f_X10_prints_b69 at h
  refine xo_2 rfl ?_
  refine xc_33 (i := 0) (q := 1) hS ly0 rfl (xc_P hS (by decide)) ?_
  refine xo_49 (st' := []) rfl rfl (xc_ly hS ly1) rfl (Nat.le_of_ble_eq_true rfl) ?_
  refine t_X9_clear hS ?_
  refine jw_mono (jw_bind h) (fun q1 h => ?_)
  show jx_Ex _ _ _ _ [] (jh S q1.2) _
  refine xo_0 rfl ?_
  refine xo_8 ?_
  refine xo_62 (t := jm_b181_88) rfl (fun hc2 => ?_) (fun hc2 => ?_)
  · replace h := jw_pos hc2 h
    refine xo_8 ?_
    refine xo_0 rfl ?_
    refine xo_15 ?_
    replace h := jw_some h
    exact xo_69 h
  · replace h := jw_neg hc2 h
    refine xo_2 rfl ?_
    refine xc_32 (i := 12) (v := (q1.2.1 12)) hS ly0 rfl ⟨Nat.le_of_ble_eq_true rfl, Nat.le_of_ble_eq_true rfl⟩ rfl ?_
    refine xo_54 (t := jm_b181_91) rfl ?_
    replace h := jw_some h
    exact xo_69 h
theorem t_X10_prints_b38 {S : jS} (hS : jCok S) {d : Nat} {Q : Option Value → jx_H → Prop} : ∀ (n : Nat) {x1 : Int32} {x2 : Int32} {σ : jT}, jw (f_X10_prints_b38 n x1 x2 σ) (fun q => Q (some (.int q.1)) (jh S q.2)) → jx_Ex (d + 4) jm_l181 jm_b181_38 [.ref 0, .int x1, .int x2] [] (jh S σ) Q := by
  intro n
  induction n with
  | zero => intro x1 x2 σ h; exact jw_none h
  | succ n ih =>
    intro x1 x2 σ h
    rw [f_X10_prints_b38] at h
    refine xo_0 rfl ?_
    refine xo_2 rfl ?_
    refine xc_32 (i := 12) (v := (σ.1 12)) hS ly0 rfl ⟨Nat.le_of_ble_eq_true rfl, Nat.le_of_ble_eq_true rfl⟩ rfl ?_
    refine xo_64 (t := jm_b181_69) rfl (fun hc1 => ?_) (fun hc1 => ?_)
    · replace h := jw_pos hc1 h
      exact t_X10_prints_b69 hS h
    · replace h := jw_neg hc1 h
      refine xo_2 rfl ?_
      refine xc_33 (i := 9) (q := 62) hS ly0 rfl (xc_P hS (by decide)) ?_
      refine xo_0 rfl ?_
      refine xo_2 rfl ?_
      refine xc_33 (i := 0) (q := 1) hS ly0 rfl (xc_P hS (by decide)) ?_
      refine xo_0 rfl ?_
      refine xo_49 (st' := [.int x2, .ref 62]) rfl rfl (xc_ly hS ly1) rfl (Nat.le_of_ble_eq_true rfl) ?_
      refine t_X9_at hS ?_
      refine jw_mono (jw_bind h) (fun q2 h => ?_)
      show jx_Ex _ _ _ _ [.int q2.1, .int x2, .ref 62] (jh S q2.2) _
      refine xo_9 ?_
      refine xo_15 ?_
      obtain ⟨hi3, h⟩ := jw_chk h
      refine xc_41 (j := x2.toNatClampNeg) hS ly62 ⟨Nat.le_of_ble_eq_true rfl, Nat.le_of_ble_eq_true rfl⟩ hi3 rfl ?_
      refine xo_13 (ls' := [.ref 0, .int x1, .int (x2 + 1)]) rfl rfl ?_
      refine xo_54 (t := jm_b181_38) rfl ?_
      exact ih h
theorem t_X10_prints {S : jS} (hS : jCok S) {d : Nat} {Q : Option Value → jx_H → Prop} {σ : jT} (h : jw (f_X10_prints σ) (fun q => Q (some (.int q.1)) (jh S q.2))) : jx_Sp (d + 4) 181 [.ref 0] (jh S σ) Q := by
  refine ⟨jm_i181, jm_at181, rfl, rfl, ?_⟩
  show jx_Ex _ jm_l181 jm_b181_0 [.ref 0, .retAddr 0, .retAddr 0] [] _ _
  unfold f_X10_prints at h
  refine xo_2 rfl ?_
  refine xc_33 (i := 0) (q := 1) hS ly0 rfl (xc_P hS (by decide)) ?_
  refine xo_2 rfl ?_
  refine xc_33 (i := 1) (q := 3) hS ly0 rfl (xc_P hS (by decide)) ?_
  refine xo_49 (st' := [.ref 1]) rfl rfl (xc_ly hS ly3) rfl (Nat.le_of_ble_eq_true rfl) ?_
  refine t_X3_places hS ?_
  refine jw_mono (jw_bind h) (fun q1 h => ?_)
  show jx_Ex _ _ _ _ [.int q1.1, .ref 1] (jh S q1.2) _
  refine xo_50 (st' := []) rfl rfl rfl (Nat.le_of_ble_eq_true rfl) ?_
  refine t_X1_inPrints_1 hS ?_
  refine jw_mono (jw_bind h) (fun q2 h => ?_)
  show jx_Ex _ _ _ _ [.int q2.1] (jh S q2.2) _
  refine xo_4 (ls' := [.ref 0, .int q2.1, .retAddr 0]) rfl ?_
  refine xo_0 rfl ?_
  refine xo_8 ?_
  refine xo_62 (t := jm_b181_69) rfl (fun hc3 => ?_) (fun hc3 => ?_)
  · replace h := jw_pos hc3 h
    exact t_X10_prints_b69 hS h
  · replace h := jw_neg hc3 h
    refine xo_2 rfl ?_
    refine xo_2 rfl ?_
    refine xc_33 (i := 0) (q := 1) hS ly0 rfl (xc_P hS (by decide)) ?_
    refine xo_49 (st' := [.ref 0]) rfl rfl (xc_ly hS ly1) rfl (Nat.le_of_ble_eq_true rfl) ?_
    refine t_X9_length hS ?_
    refine jw_mono (jw_bind h) (fun q4 h => ?_)
    show jx_Ex _ _ _ _ [.int q4.1, .ref 0] (jh S q4.2) _
    refine xo_9 ?_
    refine xo_73 (Nat.le_of_ble_eq_true rfl) ?_
    refine xc_34 (i := 12) hS ly0 rfl ⟨Nat.le_of_ble_eq_true rfl, Nat.le_of_ble_eq_true rfl⟩ ?_
    refine xo_8 ?_
    refine xo_4 (ls' := [.ref 0, .int q2.1, .int 0]) rfl ?_
    exact t_X10_prints_b38 hS 1000 h
/-- OfDifferentMinds.leavesPrints, at ['x', 'int', 'int'] -/
def f_X10_leavesPrints_b17 : Nat → Int32 → jT → Option (Int32 × jT)
  | 0, _, _ => none
  | n + 1, x3, σ =>
    if (σ.1 12) ≤ x3 then
      some (1, σ)
    else
      (f_X5_step σ).bind fun q2 =>
      if q2.1 = 0 then
        some (0, q2.2)
      else
        (f_X5_spot q2.2).bind fun q4 =>
        if jx_in x3 20 then
        if q4.1 = (q4.2.2 62 x3.toNatClampNeg) then
          f_X10_leavesPrints_b17 n (x3 + 1) q4.2
        else
          some (0, q4.2)
        else none
def f_X10_leavesPrints (x1 : Int32) (x2 : Int32) (σ : jT) : Option (Int32 × jT) :=
  (f_X5_begin x1 x2 (σ.2 62 0) σ).bind fun q1 =>
  f_X10_leavesPrints_b17 1000 1 q1.2
theorem t_X10_leavesPrints_b17 {S : jS} (hS : jCok S) {d : Nat} {Q : Option Value → jx_H → Prop} : ∀ (n : Nat) {x3 : Int32} {w1 : Value} {w2 : Value} {σ : jT}, jw (f_X10_leavesPrints_b17 n x3 σ) (fun q => Q (some (.int q.1)) (jh S q.2)) → jx_Ex (d + 4) jm_l183 jm_b183_17 [.ref 0, w1, w2, .int x3] [] (jh S σ) Q := by
  intro n
  induction n with
  | zero => intro x3 w1 w2 σ h; exact jw_none h
  | succ n ih =>
    intro x3 w1 w2 σ h
    rw [f_X10_leavesPrints_b17] at h
    refine xo_0 rfl ?_
    refine xo_2 rfl ?_
    refine xc_32 (i := 12) (v := (σ.1 12)) hS ly0 rfl ⟨Nat.le_of_ble_eq_true rfl, Nat.le_of_ble_eq_true rfl⟩ rfl ?_
    refine xo_64 (t := jm_b183_59) rfl (fun hc1 => ?_) (fun hc1 => ?_)
    · replace h := jw_pos hc1 h
      refine xo_8 ?_
      replace h := jw_some h
      exact xo_70 (by decide) h
    · replace h := jw_neg hc1 h
      refine xo_2 rfl ?_
      refine xc_33 (i := 6) (q := 49) hS ly0 rfl (xc_P hS (by decide)) ?_
      refine xo_49 (st' := []) rfl rfl (xc_ly hS ly49) rfl (Nat.le_of_ble_eq_true rfl) ?_
      refine t_X5_step hS ?_
      refine jw_mono (jw_bind h) (fun q2 h => ?_)
      show jx_Ex _ _ _ _ [.int q2.1] (jh S q2.2) _
      refine xo_55 (t := jm_b183_51) rfl (fun hc3 => ?_) (fun hc3 => ?_)
      · replace h := jw_pos hc3 h
        refine xo_8 ?_
        replace h := jw_some h
        exact xo_70 (by decide) h
      · replace h := jw_neg hc3 h
        refine xo_2 rfl ?_
        refine xc_33 (i := 6) (q := 49) hS ly0 rfl (xc_P hS (by decide)) ?_
        refine xo_49 (st' := []) rfl rfl (xc_ly hS ly49) rfl (Nat.le_of_ble_eq_true rfl) ?_
        refine t_X5_spot hS ?_
        refine jw_mono (jw_bind h) (fun q4 h => ?_)
        show jx_Ex _ _ _ _ [.int q4.1] (jh S q4.2) _
        refine xo_2 rfl ?_
        refine xc_33 (i := 9) (q := 62) hS ly0 rfl (xc_P hS (by decide)) ?_
        refine xo_0 rfl ?_
        obtain ⟨hi5, h⟩ := jw_chk h
        refine xc_38 (j := x3.toNatClampNeg) (v := (q4.2.2 62 x3.toNatClampNeg)) hS ly62 ⟨Nat.le_of_ble_eq_true rfl, Nat.le_of_ble_eq_true rfl⟩ hi5 rfl rfl ?_
        refine xo_61 (t := jm_b183_53) rfl (fun hc6 => ?_) (fun hc6 => ?_)
        · replace h := jw_pos hc6 h
          refine xo_13 (ls' := [.ref 0, w1, w2, .int (x3 + 1)]) rfl rfl ?_
          refine xo_54 (t := jm_b183_17) rfl ?_
          exact ih h
        · replace h := jw_neg hc6 h
          refine xo_8 ?_
          replace h := jw_some h
          exact xo_70 (by decide) h
theorem t_X10_leavesPrints {S : jS} (hS : jCok S) {d : Nat} {Q : Option Value → jx_H → Prop} {x1 : Int32} {x2 : Int32} {σ : jT} (h : jw (f_X10_leavesPrints x1 x2 σ) (fun q => Q (some (.int q.1)) (jh S q.2))) : jx_Sp (d + 4) 183 [.ref 0, .int x1, .int x2] (jh S σ) Q := by
  refine ⟨jm_i183, jm_at183, rfl, rfl, ?_⟩
  show jx_Ex _ jm_l183 jm_b183_0 [.ref 0, .int x1, .int x2, .retAddr 0] [] _ _
  unfold f_X10_leavesPrints at h
  refine xo_2 rfl ?_
  refine xc_33 (i := 6) (q := 49) hS ly0 rfl (xc_P hS (by decide)) ?_
  refine xo_0 rfl ?_
  refine xo_0 rfl ?_
  refine xo_2 rfl ?_
  refine xc_33 (i := 9) (q := 62) hS ly0 rfl (xc_P hS (by decide)) ?_
  refine xo_8 ?_
  refine xc_38 (j := 0) (v := (σ.2 62 0)) hS ly62 ⟨Nat.le_of_ble_eq_true rfl, Nat.le_of_ble_eq_true rfl⟩ (by decide) (by decide) rfl ?_
  refine xo_49 (st' := []) rfl rfl (xc_ly hS ly49) rfl (Nat.le_of_ble_eq_true rfl) ?_
  refine t_X5_begin hS ?_
  refine jw_mono (jw_bind h) (fun q1 h => ?_)
  show jx_Ex _ _ _ _ [] (jh S q1.2) _
  refine xo_8 ?_
  refine xo_4 (ls' := [.ref 0, .int x1, .int x2, .int 1]) rfl ?_
  exact t_X10_leavesPrints_b17 hS 1000 h
/-- OfDifferentMinds.fits, at ['x'] -/
def f_X10_fits_b75 (k34 : Int32 → Int32 → Int32 → jT → Option (Int32 × jT)) (x1 : Int32) (x2 : Int32) (x3 : Int32) (σ : jT) : Option (Int32 × jT) :=
  k34 x1 x2 (x3 + 1) σ
def f_X10_fits_b72 (k34 : Int32 → Int32 → Int32 → jT → Option (Int32 × jT)) (x1 : Int32) (x2 : Int32) (x3 : Int32) (σ : jT) : Option (Int32 × jT) :=
  f_X10_fits_b75 k34 (x1 + 1) x2 x3 σ
def f_X10_fits_b34 (k21 : Int32 → Int32 → jT → Option (Int32 × jT)) : Nat → Int32 → Int32 → Int32 → jT → Option (Int32 × jT)
  | 0, _, _, _, _ => none
  | n + 1, x1, x2, x3, σ =>
    (f_X3_riderCount σ).bind fun q1 =>
    if q1.1 ≤ x3 then
      k21 x1 (x2 + 1) q1.2
    else
      if x2 = x3 then
        f_X10_fits_b75 (f_X10_fits_b34 k21 n) x1 x2 x3 q1.2
      else
        (f_X10_leavesPrints x2 x3 q1.2).bind fun q4 =>
        if q4.1 = 0 then
          f_X10_fits_b75 (f_X10_fits_b34 k21 n) x1 x2 x3 q4.2
        else
          if ¬ x1 = 0 then
            f_X10_fits_b72 (f_X10_fits_b34 k21 n) x1 x2 x3 q4.2
          else
            (f_X6_tell_ x2 x3 q4.2).bind fun q7 =>
            f_X10_fits_b72 (f_X10_fits_b34 k21 n) x1 x2 x3 q7.2
def f_X10_fits_b21 : Nat → Int32 → Int32 → jT → Option (Int32 × jT)
  | 0, _, _, _ => none
  | n + 1, x1, x2, σ =>
    (f_X3_riderCount σ).bind fun q1 =>
    if q1.1 ≤ x2 then
      some (x1, q1.2)
    else
      f_X10_fits_b34 (f_X10_fits_b21 n) 1000 x1 x2 0 q1.2
def f_X10_fits (σ : jT) : Option (Int32 × jT) :=
  if ¬ (σ.1 12) = 0 then
    (f_X6_clear σ).bind fun q2 =>
    f_X10_fits_b21 1000 0 0 q2.2
  else
    some ((-2), σ)
theorem t_X10_fits_b75 {S : jS} (hS : jCok S) {d : Nat} {Q : Option Value → jx_H → Prop} {k34 : Int32 → Int32 → Int32 → jT → Option (Int32 × jT)} (hk34 : ∀ {x1 : Int32} {x2 : Int32} {x3 : Int32} {σ : jT}, jw (k34 x1 x2 x3 σ) (fun q => Q (some (.int q.1)) (jh S q.2)) → jx_Ex (d + 5) jm_l182 jm_b182_34 [.ref 0, .int x1, .int x2, .int x3] [] (jh S σ) Q) {x1 : Int32} {x2 : Int32} {x3 : Int32} {σ : jT} (h : jw (f_X10_fits_b75 k34 x1 x2 x3 σ) (fun q => Q (some (.int q.1)) (jh S q.2))) : jx_Ex (d + 5) jm_l182 jm_b182_75 [.ref 0, .int x1, .int x2, .int x3] [] (jh S σ) Q := by
  unfold f_X10_fits_b75 at h
  refine xo_13 (ls' := [.ref 0, .int x1, .int x2, .int (x3 + 1)]) rfl rfl ?_
  refine xo_54 (t := jm_b182_34) rfl ?_
  exact hk34 h
theorem t_X10_fits_b72 {S : jS} (hS : jCok S) {d : Nat} {Q : Option Value → jx_H → Prop} {k34 : Int32 → Int32 → Int32 → jT → Option (Int32 × jT)} (hk34 : ∀ {x1 : Int32} {x2 : Int32} {x3 : Int32} {σ : jT}, jw (k34 x1 x2 x3 σ) (fun q => Q (some (.int q.1)) (jh S q.2)) → jx_Ex (d + 5) jm_l182 jm_b182_34 [.ref 0, .int x1, .int x2, .int x3] [] (jh S σ) Q) {x1 : Int32} {x2 : Int32} {x3 : Int32} {σ : jT} (h : jw (f_X10_fits_b72 k34 x1 x2 x3 σ) (fun q => Q (some (.int q.1)) (jh S q.2))) : jx_Ex (d + 5) jm_l182 jm_b182_72 [.ref 0, .int x1, .int x2, .int x3] [] (jh S σ) Q := by
  unfold f_X10_fits_b72 at h
  refine xo_13 (ls' := [.ref 0, .int (x1 + 1), .int x2, .int x3]) rfl rfl ?_
  exact t_X10_fits_b75 hS hk34 h
theorem t_X10_fits_b34 {S : jS} (hS : jCok S) {d : Nat} {Q : Option Value → jx_H → Prop} {k21 : Int32 → Int32 → jT → Option (Int32 × jT)} (hk21 : ∀ {x1 : Int32} {x2 : Int32} {w3 : Value} {σ : jT}, jw (k21 x1 x2 σ) (fun q => Q (some (.int q.1)) (jh S q.2)) → jx_Ex (d + 5) jm_l182 jm_b182_21 [.ref 0, .int x1, .int x2, w3] [] (jh S σ) Q) : ∀ (n : Nat) {x1 : Int32} {x2 : Int32} {x3 : Int32} {σ : jT}, jw (f_X10_fits_b34 k21 n x1 x2 x3 σ) (fun q => Q (some (.int q.1)) (jh S q.2)) → jx_Ex (d + 5) jm_l182 jm_b182_34 [.ref 0, .int x1, .int x2, .int x3] [] (jh S σ) Q := by
  intro n
  induction n with
  | zero => intro x1 x2 x3 σ h; exact jw_none h
  | succ n ih =>
    intro x1 x2 x3 σ h
    rw [f_X10_fits_b34] at h
    refine xo_0 rfl ?_
    refine xo_2 rfl ?_
    refine xc_33 (i := 1) (q := 3) hS ly0 rfl (xc_P hS (by decide)) ?_
    refine xo_49 (st' := [.int x3]) rfl rfl (xc_ly hS ly3) rfl (Nat.le_of_ble_eq_true rfl) ?_
    refine t_X3_riderCount hS ?_
    refine jw_mono (jw_bind h) (fun q1 h => ?_)
    show jx_Ex _ _ _ _ [.int q1.1, .int x3] (jh S q1.2) _
    refine xo_64 (t := jm_b182_81) rfl (fun hc2 => ?_) (fun hc2 => ?_)
    · replace h := jw_pos hc2 h
      refine xo_13 (ls' := [.ref 0, .int x1, .int (x2 + 1), .int x3]) rfl rfl ?_
      refine xo_54 (t := jm_b182_21) rfl ?_
      exact hk21 h
    · replace h := jw_neg hc2 h
      refine xo_0 rfl ?_
      refine xo_0 rfl ?_
      refine xo_61 (t := jm_b182_75) rfl (fun hc3 => ?_) (fun hc3 => ?_)
      · replace h := jw_pos hc3 h
        exact t_X10_fits_b75 hS ih h
      · replace h := jw_neg hc3 h
        refine xo_2 rfl ?_
        refine xo_0 rfl ?_
        refine xo_0 rfl ?_
        refine xo_49 (st' := []) rfl rfl (xc_ly hS ly0) rfl (Nat.le_of_ble_eq_true rfl) ?_
        refine t_X10_leavesPrints hS ?_
        refine jw_mono (jw_bind h) (fun q4 h => ?_)
        show jx_Ex _ _ _ _ [.int q4.1] (jh S q4.2) _
        refine xo_55 (t := jm_b182_75) rfl (fun hc5 => ?_) (fun hc5 => ?_)
        · replace h := jw_pos hc5 h
          exact t_X10_fits_b75 hS ih h
        · replace h := jw_neg hc5 h
          refine xo_0 rfl ?_
          refine xo_56 (t := jm_b182_72) rfl (fun hc6 => ?_) (fun hc6 => ?_)
          · replace h := jw_pos hc6 h
            exact t_X10_fits_b72 hS ih h
          · replace h := jw_neg hc6 h
            refine xo_2 rfl ?_
            refine xc_33 (i := 5) (q := 47) hS ly0 rfl (xc_P hS (by decide)) ?_
            refine xo_0 rfl ?_
            refine xo_0 rfl ?_
            refine xo_49 (st' := []) rfl rfl (xc_ly hS ly47) rfl (Nat.le_of_ble_eq_true rfl) ?_
            refine t_X6_tell_ hS ?_
            refine jw_mono (jw_bind h) (fun q7 h => ?_)
            show jx_Ex _ _ _ _ [] (jh S q7.2) _
            exact t_X10_fits_b72 hS ih h
theorem t_X10_fits_b21 {S : jS} (hS : jCok S) {d : Nat} {Q : Option Value → jx_H → Prop} : ∀ (n : Nat) {x1 : Int32} {x2 : Int32} {w3 : Value} {σ : jT}, jw (f_X10_fits_b21 n x1 x2 σ) (fun q => Q (some (.int q.1)) (jh S q.2)) → jx_Ex (d + 5) jm_l182 jm_b182_21 [.ref 0, .int x1, .int x2, w3] [] (jh S σ) Q := by
  intro n
  induction n with
  | zero => intro x1 x2 w3 σ h; exact jw_none h
  | succ n ih =>
    intro x1 x2 w3 σ h
    rw [f_X10_fits_b21] at h
    refine xo_0 rfl ?_
    refine xo_2 rfl ?_
    refine xc_33 (i := 1) (q := 3) hS ly0 rfl (xc_P hS (by decide)) ?_
    refine xo_49 (st' := [.int x2]) rfl rfl (xc_ly hS ly3) rfl (Nat.le_of_ble_eq_true rfl) ?_
    refine t_X3_riderCount hS ?_
    refine jw_mono (jw_bind h) (fun q1 h => ?_)
    show jx_Ex _ _ _ _ [.int q1.1, .int x2] (jh S q1.2) _
    refine xo_64 (t := jm_b182_87) rfl (fun hc2 => ?_) (fun hc2 => ?_)
    · replace h := jw_pos hc2 h
      refine xo_0 rfl ?_
      replace h := jw_some h
      exact xo_69 h
    · replace h := jw_neg hc2 h
      refine xo_8 ?_
      refine xo_4 (ls' := [.ref 0, .int x1, .int x2, .int 0]) rfl ?_
      exact t_X10_fits_b34 hS ih 1000 h
theorem t_X10_fits {S : jS} (hS : jCok S) {d : Nat} {Q : Option Value → jx_H → Prop} {σ : jT} (h : jw (f_X10_fits σ) (fun q => Q (some (.int q.1)) (jh S q.2))) : jx_Sp (d + 5) 182 [.ref 0] (jh S σ) Q := by
  refine ⟨jm_i182, jm_at182, rfl, rfl, ?_⟩
  show jx_Ex _ jm_l182 jm_b182_0 [.ref 0, .retAddr 0, .retAddr 0, .retAddr 0] [] _ _
  unfold f_X10_fits at h
  refine xo_2 rfl ?_
  refine xc_32 (i := 12) (v := (σ.1 12)) hS ly0 rfl ⟨Nat.le_of_ble_eq_true rfl, Nat.le_of_ble_eq_true rfl⟩ rfl ?_
  refine xo_56 (t := jm_b182_10) rfl (fun hc1 => ?_) (fun hc1 => ?_)
  · replace h := jw_pos hc1 h
    refine xo_8 ?_
    refine xo_4 (ls' := [.ref 0, .int 0, .retAddr 0, .retAddr 0]) rfl ?_
    refine xo_2 rfl ?_
    refine xc_33 (i := 5) (q := 47) hS ly0 rfl (xc_P hS (by decide)) ?_
    refine xo_49 (st' := []) rfl rfl (xc_ly hS ly47) rfl (Nat.le_of_ble_eq_true rfl) ?_
    refine t_X6_clear hS ?_
    refine jw_mono (jw_bind h) (fun q2 h => ?_)
    show jx_Ex _ _ _ _ [] (jh S q2.2) _
    refine xo_8 ?_
    refine xo_4 (ls' := [.ref 0, .int 0, .int 0, .retAddr 0]) rfl ?_
    exact t_X10_fits_b21 hS 1000 h
  · replace h := jw_neg hc1 h
    refine xo_9 ?_
    replace h := jw_some h
    exact xo_69 h
/-- OfDifferentMinds.viewsBetween, at ['x', 'int', 'int', 'int'] -/
def f_X10_viewsBetween_b81 (k41 : Int32 → Int32 → Int32 → Int32 → Int32 → Int32 → jT → Option (Int32 × jT)) (x2 : Int32) (x3 : Int32) (x4 : Int32) (x5 : Int32) (x6 : Int32) (x7 : Int32) (σ : jT) : Option (Int32 × jT) :=
  k41 x2 x3 x4 x5 x6 (x7 + 1) σ
def f_X10_viewsBetween_b41 (k31 : Int32 → Int32 → Int32 → Int32 → Int32 → jT → Option (Int32 × jT)) : Nat → Int32 → Int32 → Int32 → Int32 → Int32 → Int32 → jT → Option (Int32 × jT)
  | 0, _, _, _, _, _, _, _ => none
  | n + 1, x2, x3, x4, x5, x6, x7, σ =>
    if x4 ≤ x7 then
      k31 x2 x3 x4 x5 (x6 + 1) σ
    else
      if x6 = x7 then
        f_X10_viewsBetween_b81 (f_X10_viewsBetween_b41 k31 n) x2 x3 x4 x5 x6 x7 σ
      else
        (f_X7_tells x6 x7 σ).bind fun q3 =>
        (f_X3_leadsTo x2 q3.1 q3.2).bind fun q4 =>
        if ¬ q4.1 = x3 then
          f_X10_viewsBetween_b81 (f_X10_viewsBetween_b41 k31 n) x2 x3 x4 x5 x6 x7 q4.2
        else
          f_X10_viewsBetween_b81 (f_X10_viewsBetween_b41 k31 n) x2 x3 x4 (x5 + 1) x6 x7 q4.2
def f_X10_viewsBetween_b31 : Nat → Int32 → Int32 → Int32 → Int32 → Int32 → jT → Option (Int32 × jT)
  | 0, _, _, _, _, _, _ => none
  | n + 1, x2, x3, x4, x5, x6, σ =>
    if x4 ≤ x6 then
      some (x5, σ)
    else
      f_X10_viewsBetween_b41 (f_X10_viewsBetween_b31 n) 1000 x2 x3 x4 x5 x6 0 σ
def f_X10_viewsBetween (x1 : Int32) (x2 : Int32) (x3 : Int32) (σ : jT) : Option (Int32 × jT) :=
  (f_X3_waysAt x2 σ).bind fun q1 =>
  (f_X7_setFacts q1.1 x2 x1 9 9 q1.2).bind fun q2 =>
  f_X10_viewsBetween_b31 1000 x2 x3 q1.1 0 0 q2.2
theorem t_X10_viewsBetween_b81 {S : jS} (hS : jCok S) {d : Nat} {Q : Option Value → jx_H → Prop} {k41 : Int32 → Int32 → Int32 → Int32 → Int32 → Int32 → jT → Option (Int32 × jT)} (hk41 : ∀ {x2 : Int32} {x3 : Int32} {x4 : Int32} {x5 : Int32} {x6 : Int32} {x7 : Int32} {w1 : Value} {σ : jT}, jw (k41 x2 x3 x4 x5 x6 x7 σ) (fun q => Q (some (.int q.1)) (jh S q.2)) → jx_Ex (d + 2) jm_l185 jm_b185_41 [.ref 0, w1, .int x2, .int x3, .int x4, .int x5, .int x6, .int x7] [] (jh S σ) Q) {x2 : Int32} {x3 : Int32} {x4 : Int32} {x5 : Int32} {x6 : Int32} {x7 : Int32} {w1 : Value} {σ : jT} (h : jw (f_X10_viewsBetween_b81 k41 x2 x3 x4 x5 x6 x7 σ) (fun q => Q (some (.int q.1)) (jh S q.2))) : jx_Ex (d + 2) jm_l185 jm_b185_81 [.ref 0, w1, .int x2, .int x3, .int x4, .int x5, .int x6, .int x7] [] (jh S σ) Q := by
  unfold f_X10_viewsBetween_b81 at h
  refine xo_13 (ls' := [.ref 0, w1, .int x2, .int x3, .int x4, .int x5, .int x6, .int (x7 + 1)]) rfl rfl ?_
  refine xo_54 (t := jm_b185_41) rfl ?_
  exact hk41 h
theorem t_X10_viewsBetween_b41 {S : jS} (hS : jCok S) {d : Nat} {Q : Option Value → jx_H → Prop} {k31 : Int32 → Int32 → Int32 → Int32 → Int32 → jT → Option (Int32 × jT)} (hk31 : ∀ {x2 : Int32} {x3 : Int32} {x4 : Int32} {x5 : Int32} {x6 : Int32} {w1 : Value} {w7 : Value} {σ : jT}, jw (k31 x2 x3 x4 x5 x6 σ) (fun q => Q (some (.int q.1)) (jh S q.2)) → jx_Ex (d + 2) jm_l185 jm_b185_31 [.ref 0, w1, .int x2, .int x3, .int x4, .int x5, .int x6, w7] [] (jh S σ) Q) : ∀ (n : Nat) {x2 : Int32} {x3 : Int32} {x4 : Int32} {x5 : Int32} {x6 : Int32} {x7 : Int32} {w1 : Value} {σ : jT}, jw (f_X10_viewsBetween_b41 k31 n x2 x3 x4 x5 x6 x7 σ) (fun q => Q (some (.int q.1)) (jh S q.2)) → jx_Ex (d + 2) jm_l185 jm_b185_41 [.ref 0, w1, .int x2, .int x3, .int x4, .int x5, .int x6, .int x7] [] (jh S σ) Q := by
  intro n
  induction n with
  | zero => intro x2 x3 x4 x5 x6 x7 w1 σ h; exact jw_none h
  | succ n ih =>
    intro x2 x3 x4 x5 x6 x7 w1 σ h
    rw [f_X10_viewsBetween_b41] at h
    refine xo_1 rfl ?_
    refine xo_1 rfl ?_
    refine xo_64 (t := jm_b185_87) rfl (fun hc1 => ?_) (fun hc1 => ?_)
    · replace h := jw_pos hc1 h
      refine xo_13 (ls' := [.ref 0, w1, .int x2, .int x3, .int x4, .int x5, .int (x6 + 1), .int x7]) rfl rfl ?_
      refine xo_54 (t := jm_b185_31) rfl ?_
      exact hk31 h
    · replace h := jw_neg hc1 h
      refine xo_1 rfl ?_
      refine xo_1 rfl ?_
      refine xo_61 (t := jm_b185_81) rfl (fun hc2 => ?_) (fun hc2 => ?_)
      · replace h := jw_pos hc2 h
        exact t_X10_viewsBetween_b81 hS ih h
      · replace h := jw_neg hc2 h
        refine xo_2 rfl ?_
        refine xc_33 (i := 1) (q := 3) hS ly0 rfl (xc_P hS (by decide)) ?_
        refine xo_0 rfl ?_
        refine xo_2 rfl ?_
        refine xc_33 (i := 2) (q := 7) hS ly0 rfl (xc_P hS (by decide)) ?_
        refine xo_1 rfl ?_
        refine xo_1 rfl ?_
        refine xo_49 (st' := [.int x2, .ref 3]) rfl rfl (xc_ly hS ly7) rfl (Nat.le_of_ble_eq_true rfl) ?_
        refine t_X7_tells hS ?_
        refine jw_mono (jw_bind h) (fun q3 h => ?_)
        show jx_Ex _ _ _ _ [.int q3.1, .int x2, .ref 3] (jh S q3.2) _
        refine xo_49 (st' := []) rfl rfl (xc_ly hS ly3) rfl (Nat.le_of_ble_eq_true rfl) ?_
        refine t_X3_leadsTo hS ?_
        refine jw_mono (jw_bind h) (fun q4 h => ?_)
        show jx_Ex _ _ _ _ [.int q4.1] (jh S q4.2) _
        refine xo_0 rfl ?_
        refine xo_62 (t := jm_b185_81) rfl (fun hc5 => ?_) (fun hc5 => ?_)
        · replace h := jw_pos hc5 h
          exact t_X10_viewsBetween_b81 hS ih h
        · replace h := jw_neg hc5 h
          refine xo_13 (ls' := [.ref 0, w1, .int x2, .int x3, .int x4, .int (x5 + 1), .int x6, .int x7]) rfl rfl ?_
          exact t_X10_viewsBetween_b81 hS ih h
theorem t_X10_viewsBetween_b31 {S : jS} (hS : jCok S) {d : Nat} {Q : Option Value → jx_H → Prop} : ∀ (n : Nat) {x2 : Int32} {x3 : Int32} {x4 : Int32} {x5 : Int32} {x6 : Int32} {w1 : Value} {w7 : Value} {σ : jT}, jw (f_X10_viewsBetween_b31 n x2 x3 x4 x5 x6 σ) (fun q => Q (some (.int q.1)) (jh S q.2)) → jx_Ex (d + 2) jm_l185 jm_b185_31 [.ref 0, w1, .int x2, .int x3, .int x4, .int x5, .int x6, w7] [] (jh S σ) Q := by
  intro n
  induction n with
  | zero => intro x2 x3 x4 x5 x6 w1 w7 σ h; exact jw_none h
  | succ n ih =>
    intro x2 x3 x4 x5 x6 w1 w7 σ h
    rw [f_X10_viewsBetween_b31] at h
    refine xo_1 rfl ?_
    refine xo_1 rfl ?_
    refine xo_64 (t := jm_b185_93) rfl (fun hc1 => ?_) (fun hc1 => ?_)
    · replace h := jw_pos hc1 h
      refine xo_1 rfl ?_
      replace h := jw_some h
      exact xo_69 h
    · replace h := jw_neg hc1 h
      refine xo_8 ?_
      refine xo_5 (ls' := [.ref 0, w1, .int x2, .int x3, .int x4, .int x5, .int x6, .int 0]) rfl ?_
      exact t_X10_viewsBetween_b41 hS ih 1000 h
theorem t_X10_viewsBetween {S : jS} (hS : jCok S) {d : Nat} {Q : Option Value → jx_H → Prop} {x1 : Int32} {x2 : Int32} {x3 : Int32} {σ : jT} (h : jw (f_X10_viewsBetween x1 x2 x3 σ) (fun q => Q (some (.int q.1)) (jh S q.2))) : jx_Sp (d + 2) 185 [.ref 0, .int x1, .int x2, .int x3] (jh S σ) Q := by
  refine ⟨jm_i185, jm_at185, rfl, rfl, ?_⟩
  show jx_Ex _ jm_l185 jm_b185_0 [.ref 0, .int x1, .int x2, .int x3, .retAddr 0, .retAddr 0, .retAddr 0, .retAddr 0] [] _ _
  unfold f_X10_viewsBetween at h
  refine xo_2 rfl ?_
  refine xc_33 (i := 1) (q := 3) hS ly0 rfl (xc_P hS (by decide)) ?_
  refine xo_0 rfl ?_
  refine xo_49 (st' := []) rfl rfl (xc_ly hS ly3) rfl (Nat.le_of_ble_eq_true rfl) ?_
  refine t_X3_waysAt hS ?_
  refine jw_mono (jw_bind h) (fun q1 h => ?_)
  show jx_Ex _ _ _ _ [.int q1.1] (jh S q1.2) _
  refine xo_5 (ls' := [.ref 0, .int x1, .int x2, .int x3, .int q1.1, .retAddr 0, .retAddr 0, .retAddr 0]) rfl ?_
  refine xo_8 ?_
  refine xo_5 (ls' := [.ref 0, .int x1, .int x2, .int x3, .int q1.1, .int 0, .retAddr 0, .retAddr 0]) rfl ?_
  refine xo_2 rfl ?_
  refine xc_33 (i := 2) (q := 7) hS ly0 rfl (xc_P hS (by decide)) ?_
  refine xo_1 rfl ?_
  refine xo_0 rfl ?_
  refine xo_0 rfl ?_
  refine xo_9 ?_
  refine xo_9 ?_
  refine xo_49 (st' := []) rfl rfl (xc_ly hS ly7) rfl (Nat.le_of_ble_eq_true rfl) ?_
  refine t_X7_setFacts hS ?_
  refine jw_mono (jw_bind h) (fun q2 h => ?_)
  show jx_Ex _ _ _ _ [] (jh S q2.2) _
  refine xo_8 ?_
  refine xo_5 (ls' := [.ref 0, .int x1, .int x2, .int x3, .int q1.1, .int 0, .int 0, .retAddr 0]) rfl ?_
  exact t_X10_viewsBetween_b31 hS 1000 h
/-- OfDifferentMinds.views, at ['x'] -/
def f_X10_views_b72 (k21 : Int32 → Int32 → jT → Option (Int32 × jT)) (x1 : Int32) (x2 : Int32) (σ : jT) : Option (Int32 × jT) :=
  k21 x1 (x2 + 1) σ
def f_X10_views_b21 : Nat → Int32 → Int32 → jT → Option (Int32 × jT)
  | 0, _, _, _ => none
  | n + 1, x1, x2, σ =>
    if (σ.1 12) ≤ (x2 + 1) then
      some (x1, σ)
    else
      if jx_in x2 20 then
      if jx_in (x2 + 1) 20 then
      (f_X10_viewsBetween x2 (σ.2 62 x2.toNatClampNeg) (σ.2 62 (x2 + 1).toNatClampNeg) σ).bind fun q4 =>
      if q4.1 ≤ 0 then
        f_X10_views_b72 (f_X10_views_b21 n) x1 x2 q4.2
      else
        if 15 < (x1 + 1) then
          f_X10_views_b72 (f_X10_views_b21 n) (x1 + 1) x2 q4.2
        else
          (f_X6_put q4.1 q4.2).bind fun q7 =>
          f_X10_views_b72 (f_X10_views_b21 n) (x1 + 1) x2 q7.2
      else none
      else none
def f_X10_views (σ : jT) : Option (Int32 × jT) :=
  if ¬ (σ.1 12) = 0 then
    (f_X6_clear σ).bind fun q2 =>
    f_X10_views_b21 1000 0 0 q2.2
  else
    some ((-2), σ)
theorem t_X10_views_b72 {S : jS} (hS : jCok S) {d : Nat} {Q : Option Value → jx_H → Prop} {k21 : Int32 → Int32 → jT → Option (Int32 × jT)} (hk21 : ∀ {x1 : Int32} {x2 : Int32} {w3 : Value} {σ : jT}, jw (k21 x1 x2 σ) (fun q => Q (some (.int q.1)) (jh S q.2)) → jx_Ex (d + 3) jm_l184 jm_b184_21 [.ref 0, .int x1, .int x2, w3] [] (jh S σ) Q) {x1 : Int32} {x2 : Int32} {w3 : Value} {σ : jT} (h : jw (f_X10_views_b72 k21 x1 x2 σ) (fun q => Q (some (.int q.1)) (jh S q.2))) : jx_Ex (d + 3) jm_l184 jm_b184_72 [.ref 0, .int x1, .int x2, w3] [] (jh S σ) Q := by
  unfold f_X10_views_b72 at h
  refine xo_13 (ls' := [.ref 0, .int x1, .int (x2 + 1), w3]) rfl rfl ?_
  refine xo_54 (t := jm_b184_21) rfl ?_
  exact hk21 h
theorem t_X10_views_b21 {S : jS} (hS : jCok S) {d : Nat} {Q : Option Value → jx_H → Prop} : ∀ (n : Nat) {x1 : Int32} {x2 : Int32} {w3 : Value} {σ : jT}, jw (f_X10_views_b21 n x1 x2 σ) (fun q => Q (some (.int q.1)) (jh S q.2)) → jx_Ex (d + 3) jm_l184 jm_b184_21 [.ref 0, .int x1, .int x2, w3] [] (jh S σ) Q := by
  intro n
  induction n with
  | zero => intro x1 x2 w3 σ h; exact jw_none h
  | succ n ih =>
    intro x1 x2 w3 σ h
    rw [f_X10_views_b21] at h
    refine xo_0 rfl ?_
    refine xo_8 ?_
    refine xo_14 ?_
    refine xo_2 rfl ?_
    refine xc_32 (i := 12) (v := (σ.1 12)) hS ly0 rfl ⟨Nat.le_of_ble_eq_true rfl, Nat.le_of_ble_eq_true rfl⟩ rfl ?_
    refine xo_64 (t := jm_b184_78) rfl (fun hc1 => ?_) (fun hc1 => ?_)
    · replace h := jw_pos hc1 h
      refine xo_0 rfl ?_
      replace h := jw_some h
      exact xo_69 h
    · replace h := jw_neg hc1 h
      refine xo_2 rfl ?_
      refine xo_0 rfl ?_
      refine xo_2 rfl ?_
      refine xc_33 (i := 9) (q := 62) hS ly0 rfl (xc_P hS (by decide)) ?_
      refine xo_0 rfl ?_
      obtain ⟨hi2, h⟩ := jw_chk h
      refine xc_38 (j := x2.toNatClampNeg) (v := (σ.2 62 x2.toNatClampNeg)) hS ly62 ⟨Nat.le_of_ble_eq_true rfl, Nat.le_of_ble_eq_true rfl⟩ hi2 rfl rfl ?_
      refine xo_2 rfl ?_
      refine xc_33 (i := 9) (q := 62) hS ly0 rfl (xc_P hS (by decide)) ?_
      refine xo_0 rfl ?_
      refine xo_8 ?_
      refine xo_14 ?_
      obtain ⟨hi3, h⟩ := jw_chk h
      refine xc_38 (j := (x2 + 1).toNatClampNeg) (v := (σ.2 62 (x2 + 1).toNatClampNeg)) hS ly62 ⟨Nat.le_of_ble_eq_true rfl, Nat.le_of_ble_eq_true rfl⟩ hi3 rfl rfl ?_
      refine xo_49 (st' := []) rfl rfl (xc_ly hS ly0) rfl (Nat.le_of_ble_eq_true rfl) ?_
      refine t_X10_viewsBetween hS ?_
      refine jw_mono (jw_bind h) (fun q4 h => ?_)
      show jx_Ex _ _ _ _ [.int q4.1] (jh S q4.2) _
      refine xo_4 (ls' := [.ref 0, .int x1, .int x2, .int q4.1]) rfl ?_
      refine xo_0 rfl ?_
      refine xo_60 (t := jm_b184_72) rfl (fun hc5 => ?_) (fun hc5 => ?_)
      · replace h := jw_pos hc5 h
        exact t_X10_views_b72 hS ih h
      · replace h := jw_neg hc5 h
        refine xo_13 (ls' := [.ref 0, .int (x1 + 1), .int x2, .int q4.1]) rfl rfl ?_
        refine xo_0 rfl ?_
        refine xo_9 ?_
        refine xo_65 (t := jm_b184_72) rfl (fun hc6 => ?_) (fun hc6 => ?_)
        · replace h := jw_pos hc6 h
          exact t_X10_views_b72 hS ih h
        · replace h := jw_neg hc6 h
          refine xo_2 rfl ?_
          refine xc_33 (i := 5) (q := 47) hS ly0 rfl (xc_P hS (by decide)) ?_
          refine xo_0 rfl ?_
          refine xo_49 (st' := []) rfl rfl (xc_ly hS ly47) rfl (Nat.le_of_ble_eq_true rfl) ?_
          refine t_X6_put hS ?_
          refine jw_mono (jw_bind h) (fun q7 h => ?_)
          show jx_Ex _ _ _ _ [] (jh S q7.2) _
          exact t_X10_views_b72 hS ih h
theorem t_X10_views {S : jS} (hS : jCok S) {d : Nat} {Q : Option Value → jx_H → Prop} {σ : jT} (h : jw (f_X10_views σ) (fun q => Q (some (.int q.1)) (jh S q.2))) : jx_Sp (d + 3) 184 [.ref 0] (jh S σ) Q := by
  refine ⟨jm_i184, jm_at184, rfl, rfl, ?_⟩
  show jx_Ex _ jm_l184 jm_b184_0 [.ref 0, .retAddr 0, .retAddr 0, .retAddr 0] [] _ _
  unfold f_X10_views at h
  refine xo_2 rfl ?_
  refine xc_32 (i := 12) (v := (σ.1 12)) hS ly0 rfl ⟨Nat.le_of_ble_eq_true rfl, Nat.le_of_ble_eq_true rfl⟩ rfl ?_
  refine xo_56 (t := jm_b184_10) rfl (fun hc1 => ?_) (fun hc1 => ?_)
  · replace h := jw_pos hc1 h
    refine xo_8 ?_
    refine xo_4 (ls' := [.ref 0, .int 0, .retAddr 0, .retAddr 0]) rfl ?_
    refine xo_2 rfl ?_
    refine xc_33 (i := 5) (q := 47) hS ly0 rfl (xc_P hS (by decide)) ?_
    refine xo_49 (st' := []) rfl rfl (xc_ly hS ly47) rfl (Nat.le_of_ble_eq_true rfl) ?_
    refine t_X6_clear hS ?_
    refine jw_mono (jw_bind h) (fun q2 h => ?_)
    show jx_Ex _ _ _ _ [] (jh S q2.2) _
    refine xo_8 ?_
    refine xo_4 (ls' := [.ref 0, .int 0, .int 0, .retAddr 0]) rfl ?_
    exact t_X10_views_b21 hS 1000 h
  · replace h := jw_neg hc1 h
    refine xo_9 ?_
    replace h := jw_some h
    exact xo_69 h
/-- Row.at, at ['x.told', 'int'] -/
def f_X6_at (x1 : Int32) (σ : jT) : Option (Int32 × jT) :=
  if x1 < 0 then
    some ((-1), σ)
  else
    if (σ.1 3009) ≤ x1 then
      some ((-1), σ)
    else
      if jx_in x1 16 then
      some ((σ.2 48 x1.toNatClampNeg), σ)
      else none
theorem t_X6_at {S : jS} (hS : jCok S) {d : Nat} {Q : Option Value → jx_H → Prop} {x1 : Int32} {σ : jT} (h : jw (f_X6_at x1 σ) (fun q => Q (some (.int q.1)) (jh S q.2))) : jx_Sp (d) 74 [.ref 47, .int x1] (jh S σ) Q := by
  refine ⟨jm_i74, jm_at74, rfl, rfl, ?_⟩
  show jx_Ex _ jm_l74 jm_b74_0 [.ref 47, .int x1] [] _ _
  unfold f_X6_at at h
  refine xo_0 rfl ?_
  refine xo_57 (t := jm_b74_21) rfl (fun hc1 => ?_) (fun hc1 => ?_)
  · replace h := jw_pos hc1 h
    refine xo_8 ?_
    replace h := jw_some h
    exact xo_69 h
  · replace h := jw_neg hc1 h
    refine xo_0 rfl ?_
    refine xo_2 rfl ?_
    refine xc_32 (i := 3009) (v := (σ.1 3009)) hS ly47 rfl ⟨Nat.le_of_ble_eq_true rfl, Nat.le_of_ble_eq_true rfl⟩ rfl ?_
    refine xo_64 (t := jm_b74_21) rfl (fun hc2 => ?_) (fun hc2 => ?_)
    · replace h := jw_pos hc2 h
      refine xo_8 ?_
      replace h := jw_some h
      exact xo_69 h
    · replace h := jw_neg hc2 h
      refine xo_2 rfl ?_
      refine xc_33 (i := 3008) (q := 48) hS ly47 rfl (xc_P hS (by decide)) ?_
      refine xo_0 rfl ?_
      obtain ⟨hi3, h⟩ := jw_chk h
      refine xc_38 (j := x1.toNatClampNeg) (v := (σ.2 48 x1.toNatClampNeg)) hS ly48 ⟨Nat.le_of_ble_eq_true rfl, Nat.le_of_ble_eq_true rfl⟩ hi3 rfl rfl ?_
      refine xo_54 (t := jm_b74_22) rfl ?_
      replace h := jw_some h
      exact xo_69 h
/-- OfDifferentMinds.editionSeen, at ['x', 'int', 'int'] -/
def f_X10_editionSeen_b52 (k5 : Int32 → Int32 → Int32 → Int32 → jT → Option (Int32 × jT)) (x1 : Int32) (x2 : Int32) (x3 : Int32) (x4 : Int32) (σ : jT) : Option (Int32 × jT) :=
  k5 x1 x2 x3 (x4 + 1) σ
def f_X10_editionSeen_b5 : Nat → Int32 → Int32 → Int32 → Int32 → jT → Option (Int32 × jT)
  | 0, _, _, _, _, _ => none
  | n + 1, x1, x2, x3, x4, σ =>
    if x2 ≤ x4 then
      some ((-1), σ)
    else
      if ((x1 >>> (x4 &&& 31)) &&& 1) = 0 then
        f_X10_editionSeen_b52 (f_X10_editionSeen_b5 n) x1 x2 x3 x4 σ
      else
        (f_X8_mapOf x4 σ).bind fun q3 =>
        (f_X8_mapOf x2 q3.2).bind fun q4 =>
        if ¬ q3.1 = q4.1 then
          f_X10_editionSeen_b52 (f_X10_editionSeen_b5 n) x1 x2 (x3 + 1) x4 q4.2
        else
          (f_X6_at x3 q4.2).bind fun q6 =>
          some (q6.1, q6.2)
def f_X10_editionSeen (x1 : Int32) (x2 : Int32) (σ : jT) : Option (Int32 × jT) :=
  f_X10_editionSeen_b5 1000 x1 x2 0 0 σ
theorem t_X10_editionSeen_b52 {S : jS} (hS : jCok S) {d : Nat} {Q : Option Value → jx_H → Prop} {k5 : Int32 → Int32 → Int32 → Int32 → jT → Option (Int32 × jT)} (hk5 : ∀ {x1 : Int32} {x2 : Int32} {x3 : Int32} {x4 : Int32} {σ : jT}, jw (k5 x1 x2 x3 x4 σ) (fun q => Q (some (.int q.1)) (jh S q.2)) → jx_Ex (d + 2) jm_l187 jm_b187_5 [.ref 0, .int x1, .int x2, .int x3, .int x4] [] (jh S σ) Q) {x1 : Int32} {x2 : Int32} {x3 : Int32} {x4 : Int32} {σ : jT} (h : jw (f_X10_editionSeen_b52 k5 x1 x2 x3 x4 σ) (fun q => Q (some (.int q.1)) (jh S q.2))) : jx_Ex (d + 2) jm_l187 jm_b187_52 [.ref 0, .int x1, .int x2, .int x3, .int x4] [] (jh S σ) Q := by
  unfold f_X10_editionSeen_b52 at h
  refine xo_13 (ls' := [.ref 0, .int x1, .int x2, .int x3, .int (x4 + 1)]) rfl rfl ?_
  refine xo_54 (t := jm_b187_5) rfl ?_
  exact hk5 h
theorem t_X10_editionSeen_b5 {S : jS} (hS : jCok S) {d : Nat} {Q : Option Value → jx_H → Prop} : ∀ (n : Nat) {x1 : Int32} {x2 : Int32} {x3 : Int32} {x4 : Int32} {σ : jT}, jw (f_X10_editionSeen_b5 n x1 x2 x3 x4 σ) (fun q => Q (some (.int q.1)) (jh S q.2)) → jx_Ex (d + 2) jm_l187 jm_b187_5 [.ref 0, .int x1, .int x2, .int x3, .int x4] [] (jh S σ) Q := by
  intro n
  induction n with
  | zero => intro x1 x2 x3 x4 σ h; exact jw_none h
  | succ n ih =>
    intro x1 x2 x3 x4 σ h
    rw [f_X10_editionSeen_b5] at h
    refine xo_1 rfl ?_
    refine xo_0 rfl ?_
    refine xo_64 (t := jm_b187_58) rfl (fun hc1 => ?_) (fun hc1 => ?_)
    · replace h := jw_pos hc1 h
      refine xo_8 ?_
      replace h := jw_some h
      exact xo_69 h
    · replace h := jw_neg hc1 h
      refine xo_0 rfl ?_
      refine xo_1 rfl ?_
      refine xo_24 ?_
      refine xo_8 ?_
      refine xo_20 ?_
      refine xo_55 (t := jm_b187_52) rfl (fun hc2 => ?_) (fun hc2 => ?_)
      · replace h := jw_pos hc2 h
        exact t_X10_editionSeen_b52 hS ih h
      · replace h := jw_neg hc2 h
        refine xo_2 rfl ?_
        refine xc_33 (i := 3) (q := 12) hS ly0 rfl (xc_P hS (by decide)) ?_
        refine xo_1 rfl ?_
        refine xo_49 (st' := []) rfl rfl (xc_ly hS ly12) rfl (Nat.le_of_ble_eq_true rfl) ?_
        refine t_X8_mapOf hS ?_
        refine jw_mono (jw_bind h) (fun q3 h => ?_)
        show jx_Ex _ _ _ _ [.int q3.1] (jh S q3.2) _
        refine xo_2 rfl ?_
        refine xc_33 (i := 3) (q := 12) hS ly0 rfl (xc_P hS (by decide)) ?_
        refine xo_0 rfl ?_
        refine xo_49 (st' := [.int q3.1]) rfl rfl (xc_ly hS ly12) rfl (Nat.le_of_ble_eq_true rfl) ?_
        refine t_X8_mapOf hS ?_
        refine jw_mono (jw_bind h) (fun q4 h => ?_)
        show jx_Ex _ _ _ _ [.int q4.1, .int q3.1] (jh S q4.2) _
        refine xo_62 (t := jm_b187_49) rfl (fun hc5 => ?_) (fun hc5 => ?_)
        · replace h := jw_pos hc5 h
          refine xo_13 (ls' := [.ref 0, .int x1, .int x2, .int (x3 + 1), .int x4]) rfl rfl ?_
          exact t_X10_editionSeen_b52 hS ih h
        · replace h := jw_neg hc5 h
          refine xo_2 rfl ?_
          refine xc_33 (i := 5) (q := 47) hS ly0 rfl (xc_P hS (by decide)) ?_
          refine xo_0 rfl ?_
          refine xo_49 (st' := []) rfl rfl (xc_ly hS ly47) rfl (Nat.le_of_ble_eq_true rfl) ?_
          refine t_X6_at hS ?_
          refine jw_mono (jw_bind h) (fun q6 h => ?_)
          show jx_Ex _ _ _ _ [.int q6.1] (jh S q6.2) _
          replace h := jw_some h
          exact xo_69 h
theorem t_X10_editionSeen {S : jS} (hS : jCok S) {d : Nat} {Q : Option Value → jx_H → Prop} {x1 : Int32} {x2 : Int32} {σ : jT} (h : jw (f_X10_editionSeen x1 x2 σ) (fun q => Q (some (.int q.1)) (jh S q.2))) : jx_Sp (d + 2) 187 [.ref 0, .int x1, .int x2] (jh S σ) Q := by
  refine ⟨jm_i187, jm_at187, rfl, rfl, ?_⟩
  show jx_Ex _ jm_l187 jm_b187_0 [.ref 0, .int x1, .int x2, .retAddr 0, .retAddr 0] [] _ _
  unfold f_X10_editionSeen at h
  refine xo_8 ?_
  refine xo_4 (ls' := [.ref 0, .int x1, .int x2, .int 0, .retAddr 0]) rfl ?_
  refine xo_8 ?_
  refine xo_5 (ls' := [.ref 0, .int x1, .int x2, .int 0, .int 0]) rfl ?_
  exact t_X10_editionSeen_b5 hS 1000 h
/-- OfDifferentMinds.editions, at ['x', 'int'] -/
def f_X10_editions_b84 (k24 : Int32 → Int32 → Int32 → jT → Option (Int32 × jT)) (x1 : Int32) (x2 : Int32) (x3 : Int32) (σ : jT) : Option (Int32 × jT) :=
  k24 x1 x2 (x3 + 1) σ
def f_X10_editions_b82 (k24 : Int32 → Int32 → Int32 → jT → Option (Int32 × jT)) (x1 : Int32) (x3 : Int32) (s0 : Int32) (s1 : Int32) (σ : jT) : Option (Int32 × jT) :=
  f_X10_editions_b84 k24 x1 (s1 + s0) x3 σ
def f_X10_editions_b67 (k24 : Int32 → Int32 → Int32 → jT → Option (Int32 × jT)) (x1 : Int32) (x2 : Int32) (x3 : Int32) (x4 : Int32) (s0 : Int32) (σ : jT) : Option (Int32 × jT) :=
  (f_X6_put s0 σ).bind fun q1 =>
  if ¬ x4 = (-1) then
    f_X10_editions_b82 k24 x1 x3 0 x2 q1.2
  else
    f_X10_editions_b82 k24 x1 x3 1 x2 q1.2
def f_X10_editions_b24 : Nat → Int32 → Int32 → Int32 → jT → Option (Int32 × jT)
  | 0, _, _, _, _ => none
  | n + 1, x1, x2, x3, σ =>
    (f_X3_riderCount σ).bind fun q1 =>
    if q1.1 ≤ x3 then
      some (x2, q1.2)
    else
      if ((x1 >>> (x3 &&& 31)) &&& 1) = 0 then
        f_X10_editions_b84 (f_X10_editions_b24 n) x1 x2 x3 q1.2
      else
        (f_X10_editionSeen x1 x3 q1.2).bind fun q4 =>
        if ¬ q4.1 = (-1) then
          f_X10_editions_b67 (f_X10_editions_b24 n) x1 x2 x3 q4.1 q4.1 q4.2
        else
          f_X10_editions_b67 (f_X10_editions_b24 n) x1 x2 x3 q4.1 x2 q4.2
def f_X10_editions (x1 : Int32) (σ : jT) : Option (Int32 × jT) :=
  (f_X3_hasRiders x1 σ).bind fun q1 =>
  if ¬ q1.1 = 0 then
    (f_X6_clear q1.2).bind fun q3 =>
    f_X10_editions_b24 1000 x1 0 0 q3.2
  else
    some ((-1), q1.2)
theorem t_X10_editions_b84 {S : jS} (hS : jCok S) {d : Nat} {Q : Option Value → jx_H → Prop} {k24 : Int32 → Int32 → Int32 → jT → Option (Int32 × jT)} (hk24 : ∀ {x1 : Int32} {x2 : Int32} {x3 : Int32} {w4 : Value} {σ : jT}, jw (k24 x1 x2 x3 σ) (fun q => Q (some (.int q.1)) (jh S q.2)) → jx_Ex (d + 3) jm_l186 jm_b186_24 [.ref 0, .int x1, .int x2, .int x3, w4] [] (jh S σ) Q) {x1 : Int32} {x2 : Int32} {x3 : Int32} {w4 : Value} {σ : jT} (h : jw (f_X10_editions_b84 k24 x1 x2 x3 σ) (fun q => Q (some (.int q.1)) (jh S q.2))) : jx_Ex (d + 3) jm_l186 jm_b186_84 [.ref 0, .int x1, .int x2, .int x3, w4] [] (jh S σ) Q := by
  unfold f_X10_editions_b84 at h
  refine xo_13 (ls' := [.ref 0, .int x1, .int x2, .int (x3 + 1), w4]) rfl rfl ?_
  refine xo_54 (t := jm_b186_24) rfl ?_
  exact hk24 h
theorem t_X10_editions_b82 {S : jS} (hS : jCok S) {d : Nat} {Q : Option Value → jx_H → Prop} {k24 : Int32 → Int32 → Int32 → jT → Option (Int32 × jT)} (hk24 : ∀ {x1 : Int32} {x2 : Int32} {x3 : Int32} {w4 : Value} {σ : jT}, jw (k24 x1 x2 x3 σ) (fun q => Q (some (.int q.1)) (jh S q.2)) → jx_Ex (d + 3) jm_l186 jm_b186_24 [.ref 0, .int x1, .int x2, .int x3, w4] [] (jh S σ) Q) {x1 : Int32} {x3 : Int32} {s0 : Int32} {s1 : Int32} {w2 : Value} {w4 : Value} {σ : jT} (h : jw (f_X10_editions_b82 k24 x1 x3 s0 s1 σ) (fun q => Q (some (.int q.1)) (jh S q.2))) : jx_Ex (d + 3) jm_l186 jm_b186_82 [.ref 0, .int x1, w2, .int x3, w4] [.int s0, .int s1] (jh S σ) Q := by
  unfold f_X10_editions_b82 at h
  refine xo_14 ?_
  refine xo_4 (ls' := [.ref 0, .int x1, .int (s1 + s0), .int x3, w4]) rfl ?_
  exact t_X10_editions_b84 hS hk24 h
theorem t_X10_editions_b67 {S : jS} (hS : jCok S) {d : Nat} {Q : Option Value → jx_H → Prop} {k24 : Int32 → Int32 → Int32 → jT → Option (Int32 × jT)} (hk24 : ∀ {x1 : Int32} {x2 : Int32} {x3 : Int32} {w4 : Value} {σ : jT}, jw (k24 x1 x2 x3 σ) (fun q => Q (some (.int q.1)) (jh S q.2)) → jx_Ex (d + 3) jm_l186 jm_b186_24 [.ref 0, .int x1, .int x2, .int x3, w4] [] (jh S σ) Q) {x1 : Int32} {x2 : Int32} {x3 : Int32} {x4 : Int32} {s0 : Int32} {σ : jT} (h : jw (f_X10_editions_b67 k24 x1 x2 x3 x4 s0 σ) (fun q => Q (some (.int q.1)) (jh S q.2))) : jx_Ex (d + 3) jm_l186 jm_b186_67 [.ref 0, .int x1, .int x2, .int x3, .int x4] [.int s0, .ref 47] (jh S σ) Q := by
  unfold f_X10_editions_b67 at h
  refine xo_49 (st' := []) rfl rfl (xc_ly hS ly47) rfl (Nat.le_of_ble_eq_true rfl) ?_
  refine t_X6_put hS ?_
  refine jw_mono (jw_bind h) (fun q1 h => ?_)
  show jx_Ex _ _ _ _ [] (jh S q1.2) _
  refine xo_0 rfl ?_
  refine xo_1 rfl ?_
  refine xo_8 ?_
  refine xo_62 (t := jm_b186_81) rfl (fun hc2 => ?_) (fun hc2 => ?_)
  · replace h := jw_pos hc2 h
    refine xo_8 ?_
    exact t_X10_editions_b82 hS hk24 h
  · replace h := jw_neg hc2 h
    refine xo_8 ?_
    refine xo_54 (t := jm_b186_82) rfl ?_
    exact t_X10_editions_b82 hS hk24 h
theorem t_X10_editions_b24 {S : jS} (hS : jCok S) {d : Nat} {Q : Option Value → jx_H → Prop} : ∀ (n : Nat) {x1 : Int32} {x2 : Int32} {x3 : Int32} {w4 : Value} {σ : jT}, jw (f_X10_editions_b24 n x1 x2 x3 σ) (fun q => Q (some (.int q.1)) (jh S q.2)) → jx_Ex (d + 3) jm_l186 jm_b186_24 [.ref 0, .int x1, .int x2, .int x3, w4] [] (jh S σ) Q := by
  intro n
  induction n with
  | zero => intro x1 x2 x3 w4 σ h; exact jw_none h
  | succ n ih =>
    intro x1 x2 x3 w4 σ h
    rw [f_X10_editions_b24] at h
    refine xo_0 rfl ?_
    refine xo_2 rfl ?_
    refine xc_33 (i := 1) (q := 3) hS ly0 rfl (xc_P hS (by decide)) ?_
    refine xo_49 (st' := [.int x3]) rfl rfl (xc_ly hS ly3) rfl (Nat.le_of_ble_eq_true rfl) ?_
    refine t_X3_riderCount hS ?_
    refine jw_mono (jw_bind h) (fun q1 h => ?_)
    show jx_Ex _ _ _ _ [.int q1.1, .int x3] (jh S q1.2) _
    refine xo_64 (t := jm_b186_90) rfl (fun hc2 => ?_) (fun hc2 => ?_)
    · replace h := jw_pos hc2 h
      refine xo_0 rfl ?_
      replace h := jw_some h
      exact xo_69 h
    · replace h := jw_neg hc2 h
      refine xo_0 rfl ?_
      refine xo_0 rfl ?_
      refine xo_24 ?_
      refine xo_8 ?_
      refine xo_20 ?_
      refine xo_55 (t := jm_b186_84) rfl (fun hc3 => ?_) (fun hc3 => ?_)
      · replace h := jw_pos hc3 h
        exact t_X10_editions_b84 hS ih h
      · replace h := jw_neg hc3 h
        refine xo_2 rfl ?_
        refine xo_0 rfl ?_
        refine xo_0 rfl ?_
        refine xo_49 (st' := []) rfl rfl (xc_ly hS ly0) rfl (Nat.le_of_ble_eq_true rfl) ?_
        refine t_X10_editionSeen hS ?_
        refine jw_mono (jw_bind h) (fun q4 h => ?_)
        show jx_Ex _ _ _ _ [.int q4.1] (jh S q4.2) _
        refine xo_5 (ls' := [.ref 0, .int x1, .int x2, .int x3, .int q4.1]) rfl ?_
        refine xo_2 rfl ?_
        refine xc_33 (i := 5) (q := 47) hS ly0 rfl (xc_P hS (by decide)) ?_
        refine xo_1 rfl ?_
        refine xo_8 ?_
        refine xo_62 (t := jm_b186_65) rfl (fun hc5 => ?_) (fun hc5 => ?_)
        · replace h := jw_pos hc5 h
          refine xo_1 rfl ?_
          exact t_X10_editions_b67 hS ih h
        · replace h := jw_neg hc5 h
          refine xo_0 rfl ?_
          refine xo_54 (t := jm_b186_67) rfl ?_
          exact t_X10_editions_b67 hS ih h
theorem t_X10_editions {S : jS} (hS : jCok S) {d : Nat} {Q : Option Value → jx_H → Prop} {x1 : Int32} {σ : jT} (h : jw (f_X10_editions x1 σ) (fun q => Q (some (.int q.1)) (jh S q.2))) : jx_Sp (d + 3) 186 [.ref 0, .int x1] (jh S σ) Q := by
  refine ⟨jm_i186, jm_at186, rfl, rfl, ?_⟩
  show jx_Ex _ jm_l186 jm_b186_0 [.ref 0, .int x1, .retAddr 0, .retAddr 0, .retAddr 0] [] _ _
  unfold f_X10_editions at h
  refine xo_2 rfl ?_
  refine xc_33 (i := 1) (q := 3) hS ly0 rfl (xc_P hS (by decide)) ?_
  refine xo_0 rfl ?_
  refine xo_49 (st' := []) rfl rfl (xc_ly hS ly3) rfl (Nat.le_of_ble_eq_true rfl) ?_
  refine t_X3_hasRiders hS ?_
  refine jw_mono (jw_bind h) (fun q1 h => ?_)
  show jx_Ex _ _ _ _ [.int q1.1] (jh S q1.2) _
  refine xo_56 (t := jm_b186_13) rfl (fun hc2 => ?_) (fun hc2 => ?_)
  · replace h := jw_pos hc2 h
    refine xo_8 ?_
    refine xo_4 (ls' := [.ref 0, .int x1, .int 0, .retAddr 0, .retAddr 0]) rfl ?_
    refine xo_2 rfl ?_
    refine xc_33 (i := 5) (q := 47) hS ly0 rfl (xc_P hS (by decide)) ?_
    refine xo_49 (st' := []) rfl rfl (xc_ly hS ly47) rfl (Nat.le_of_ble_eq_true rfl) ?_
    refine t_X6_clear hS ?_
    refine jw_mono (jw_bind h) (fun q3 h => ?_)
    show jx_Ex _ _ _ _ [] (jh S q3.2) _
    refine xo_8 ?_
    refine xo_4 (ls' := [.ref 0, .int x1, .int 0, .int 0, .retAddr 0]) rfl ?_
    exact t_X10_editions_b24 hS 1000 h
  · replace h := jw_neg hc2 h
    refine xo_8 ?_
    replace h := jw_some h
    exact xo_69 h
/-- OfDifferentMinds.holdersOf, at ['x', 'int', 'int', 'int'] -/
def f_X10_holdersOf_b41 (k6 : Int32 → Int32 → Int32 → Int32 → Int32 → jT → Option (Int32 × jT)) (x1 : Int32) (x2 : Int32) (x3 : Int32) (x4 : Int32) (x5 : Int32) (σ : jT) : Option (Int32 × jT) :=
  k6 x1 x2 x3 x4 (x5 + 1) σ
def f_X10_holdersOf_b6 : Nat → Int32 → Int32 → Int32 → Int32 → Int32 → jT → Option (Int32 × jT)
  | 0, _, _, _, _, _, _ => none
  | n + 1, x1, x2, x3, x4, x5, σ =>
    (f_X3_riderCount σ).bind fun q1 =>
    if q1.1 ≤ x5 then
      some (x4, q1.2)
    else
      if ((x2 >>> (x5 &&& 31)) &&& 1) = 0 then
        f_X10_holdersOf_b41 (f_X10_holdersOf_b6 n) x1 x2 x3 x4 x5 q1.2
      else
        (f_X10_viewAt x5 x3 q1.2).bind fun q4 =>
        if ¬ q4.1 = x1 then
          f_X10_holdersOf_b41 (f_X10_holdersOf_b6 n) x1 x2 x3 x4 x5 q4.2
        else
          f_X10_holdersOf_b41 (f_X10_holdersOf_b6 n) x1 x2 x3 (x4 + 1) x5 q4.2
def f_X10_holdersOf (x1 : Int32) (x2 : Int32) (x3 : Int32) (σ : jT) : Option (Int32 × jT) :=
  f_X10_holdersOf_b6 1000 x1 x2 x3 0 0 σ
theorem t_X10_holdersOf_b41 {S : jS} (hS : jCok S) {d : Nat} {Q : Option Value → jx_H → Prop} {k6 : Int32 → Int32 → Int32 → Int32 → Int32 → jT → Option (Int32 × jT)} (hk6 : ∀ {x1 : Int32} {x2 : Int32} {x3 : Int32} {x4 : Int32} {x5 : Int32} {σ : jT}, jw (k6 x1 x2 x3 x4 x5 σ) (fun q => Q (some (.int q.1)) (jh S q.2)) → jx_Ex (d + 4) jm_l189 jm_b189_6 [.ref 0, .int x1, .int x2, .int x3, .int x4, .int x5] [] (jh S σ) Q) {x1 : Int32} {x2 : Int32} {x3 : Int32} {x4 : Int32} {x5 : Int32} {σ : jT} (h : jw (f_X10_holdersOf_b41 k6 x1 x2 x3 x4 x5 σ) (fun q => Q (some (.int q.1)) (jh S q.2))) : jx_Ex (d + 4) jm_l189 jm_b189_41 [.ref 0, .int x1, .int x2, .int x3, .int x4, .int x5] [] (jh S σ) Q := by
  unfold f_X10_holdersOf_b41 at h
  refine xo_13 (ls' := [.ref 0, .int x1, .int x2, .int x3, .int x4, .int (x5 + 1)]) rfl rfl ?_
  refine xo_54 (t := jm_b189_6) rfl ?_
  exact hk6 h
theorem t_X10_holdersOf_b6 {S : jS} (hS : jCok S) {d : Nat} {Q : Option Value → jx_H → Prop} : ∀ (n : Nat) {x1 : Int32} {x2 : Int32} {x3 : Int32} {x4 : Int32} {x5 : Int32} {σ : jT}, jw (f_X10_holdersOf_b6 n x1 x2 x3 x4 x5 σ) (fun q => Q (some (.int q.1)) (jh S q.2)) → jx_Ex (d + 4) jm_l189 jm_b189_6 [.ref 0, .int x1, .int x2, .int x3, .int x4, .int x5] [] (jh S σ) Q := by
  intro n
  induction n with
  | zero => intro x1 x2 x3 x4 x5 σ h; exact jw_none h
  | succ n ih =>
    intro x1 x2 x3 x4 x5 σ h
    rw [f_X10_holdersOf_b6] at h
    refine xo_1 rfl ?_
    refine xo_2 rfl ?_
    refine xc_33 (i := 1) (q := 3) hS ly0 rfl (xc_P hS (by decide)) ?_
    refine xo_49 (st' := [.int x5]) rfl rfl (xc_ly hS ly3) rfl (Nat.le_of_ble_eq_true rfl) ?_
    refine t_X3_riderCount hS ?_
    refine jw_mono (jw_bind h) (fun q1 h => ?_)
    show jx_Ex _ _ _ _ [.int q1.1, .int x5] (jh S q1.2) _
    refine xo_64 (t := jm_b189_47) rfl (fun hc2 => ?_) (fun hc2 => ?_)
    · replace h := jw_pos hc2 h
      refine xo_1 rfl ?_
      replace h := jw_some h
      exact xo_69 h
    · replace h := jw_neg hc2 h
      refine xo_0 rfl ?_
      refine xo_1 rfl ?_
      refine xo_24 ?_
      refine xo_8 ?_
      refine xo_20 ?_
      refine xo_55 (t := jm_b189_41) rfl (fun hc3 => ?_) (fun hc3 => ?_)
      · replace h := jw_pos hc3 h
        exact t_X10_holdersOf_b41 hS ih h
      · replace h := jw_neg hc3 h
        refine xo_2 rfl ?_
        refine xo_1 rfl ?_
        refine xo_0 rfl ?_
        refine xo_49 (st' := []) rfl rfl (xc_ly hS ly0) rfl (Nat.le_of_ble_eq_true rfl) ?_
        refine t_X10_viewAt hS ?_
        refine jw_mono (jw_bind h) (fun q4 h => ?_)
        show jx_Ex _ _ _ _ [.int q4.1] (jh S q4.2) _
        refine xo_0 rfl ?_
        refine xo_62 (t := jm_b189_41) rfl (fun hc5 => ?_) (fun hc5 => ?_)
        · replace h := jw_pos hc5 h
          exact t_X10_holdersOf_b41 hS ih h
        · replace h := jw_neg hc5 h
          refine xo_13 (ls' := [.ref 0, .int x1, .int x2, .int x3, .int (x4 + 1), .int x5]) rfl rfl ?_
          exact t_X10_holdersOf_b41 hS ih h
theorem t_X10_holdersOf {S : jS} (hS : jCok S) {d : Nat} {Q : Option Value → jx_H → Prop} {x1 : Int32} {x2 : Int32} {x3 : Int32} {σ : jT} (h : jw (f_X10_holdersOf x1 x2 x3 σ) (fun q => Q (some (.int q.1)) (jh S q.2))) : jx_Sp (d + 4) 189 [.ref 0, .int x1, .int x2, .int x3] (jh S σ) Q := by
  refine ⟨jm_i189, jm_at189, rfl, rfl, ?_⟩
  show jx_Ex _ jm_l189 jm_b189_0 [.ref 0, .int x1, .int x2, .int x3, .retAddr 0, .retAddr 0] [] _ _
  unfold f_X10_holdersOf at h
  refine xo_8 ?_
  refine xo_5 (ls' := [.ref 0, .int x1, .int x2, .int x3, .int 0, .retAddr 0]) rfl ?_
  refine xo_8 ?_
  refine xo_5 (ls' := [.ref 0, .int x1, .int x2, .int x3, .int 0, .int 0]) rfl ?_
  exact t_X10_holdersOf_b6 hS 1000 h
/-- OfDifferentMinds.kinds, at ['x', 'int', 'int'] -/
def f_X10_kinds_b86 (k35 : Int32 → Int32 → Int32 → Int32 → Int32 → Int32 → jT → Option (Int32 × jT)) (x1 : Int32) (x2 : Int32) (x3 : Int32) (x4 : Int32) (x5 : Int32) (x6 : Int32) (σ : jT) : Option (Int32 × jT) :=
  k35 x1 x2 x3 x4 x5 (x6 + 1) σ
def f_X10_kinds_b69 (k35 : Int32 → Int32 → Int32 → Int32 → Int32 → Int32 → jT → Option (Int32 × jT)) (x1 : Int32) (x2 : Int32) (x4 : Int32) (x5 : Int32) (x6 : Int32) (x7 : Int32) (s0 : Int32) (s1 : Int32) (σ : jT) : Option (Int32 × jT) :=
  if x7 ≤ x4 then
    f_X10_kinds_b86 k35 x1 x2 (s1 + s0) x4 x5 x6 σ
  else
    f_X10_kinds_b86 k35 x1 x2 (s1 + s0) x7 x6 x6 σ
def f_X10_kinds_b35 : Nat → Int32 → Int32 → Int32 → Int32 → Int32 → Int32 → jT → Option (Int32 × jT)
  | 0, _, _, _, _, _, _, _ => none
  | n + 1, x1, x2, x3, x4, x5, x6, σ =>
    (f_X3_waysAt x2 σ).bind fun q1 =>
    if q1.1 ≤ x6 then
      (f_X6_tell_ x5 x4 q1.2).bind fun q3 =>
      some (x3, q3.2)
    else
      (f_X10_holdersOf x6 x1 x2 q1.2).bind fun q4 =>
      if q4.1 ≤ 0 then
        f_X10_kinds_b69 (f_X10_kinds_b35 n) x1 x2 x4 x5 x6 q4.1 0 x3 q4.2
      else
        f_X10_kinds_b69 (f_X10_kinds_b35 n) x1 x2 x4 x5 x6 q4.1 1 x3 q4.2
def f_X10_kinds (x1 : Int32) (x2 : Int32) (σ : jT) : Option (Int32 × jT) :=
  (f_X3_hasRiders x1 σ).bind fun q1 =>
  if q1.1 = 0 then
    some ((-1), q1.2)
  else
    (f_X3_hasPlace x2 q1.2).bind fun q3 =>
    if ¬ q3.1 = 0 then
      f_X10_kinds_b35 1000 x1 x2 0 0 (-1) 0 q3.2
    else
      some ((-1), q3.2)
theorem t_X10_kinds_b86 {S : jS} (hS : jCok S) {d : Nat} {Q : Option Value → jx_H → Prop} {k35 : Int32 → Int32 → Int32 → Int32 → Int32 → Int32 → jT → Option (Int32 × jT)} (hk35 : ∀ {x1 : Int32} {x2 : Int32} {x3 : Int32} {x4 : Int32} {x5 : Int32} {x6 : Int32} {w7 : Value} {σ : jT}, jw (k35 x1 x2 x3 x4 x5 x6 σ) (fun q => Q (some (.int q.1)) (jh S q.2)) → jx_Ex (d + 5) jm_l188 jm_b188_35 [.ref 0, .int x1, .int x2, .int x3, .int x4, .int x5, .int x6, w7] [] (jh S σ) Q) {x1 : Int32} {x2 : Int32} {x3 : Int32} {x4 : Int32} {x5 : Int32} {x6 : Int32} {w7 : Value} {σ : jT} (h : jw (f_X10_kinds_b86 k35 x1 x2 x3 x4 x5 x6 σ) (fun q => Q (some (.int q.1)) (jh S q.2))) : jx_Ex (d + 5) jm_l188 jm_b188_86 [.ref 0, .int x1, .int x2, .int x3, .int x4, .int x5, .int x6, w7] [] (jh S σ) Q := by
  unfold f_X10_kinds_b86 at h
  refine xo_13 (ls' := [.ref 0, .int x1, .int x2, .int x3, .int x4, .int x5, .int (x6 + 1), w7]) rfl rfl ?_
  refine xo_54 (t := jm_b188_35) rfl ?_
  exact hk35 h
theorem t_X10_kinds_b69 {S : jS} (hS : jCok S) {d : Nat} {Q : Option Value → jx_H → Prop} {k35 : Int32 → Int32 → Int32 → Int32 → Int32 → Int32 → jT → Option (Int32 × jT)} (hk35 : ∀ {x1 : Int32} {x2 : Int32} {x3 : Int32} {x4 : Int32} {x5 : Int32} {x6 : Int32} {w7 : Value} {σ : jT}, jw (k35 x1 x2 x3 x4 x5 x6 σ) (fun q => Q (some (.int q.1)) (jh S q.2)) → jx_Ex (d + 5) jm_l188 jm_b188_35 [.ref 0, .int x1, .int x2, .int x3, .int x4, .int x5, .int x6, w7] [] (jh S σ) Q) {x1 : Int32} {x2 : Int32} {x4 : Int32} {x5 : Int32} {x6 : Int32} {x7 : Int32} {s0 : Int32} {s1 : Int32} {w3 : Value} {σ : jT} (h : jw (f_X10_kinds_b69 k35 x1 x2 x4 x5 x6 x7 s0 s1 σ) (fun q => Q (some (.int q.1)) (jh S q.2))) : jx_Ex (d + 5) jm_l188 jm_b188_69 [.ref 0, .int x1, .int x2, w3, .int x4, .int x5, .int x6, .int x7] [.int s0, .int s1] (jh S σ) Q := by
  unfold f_X10_kinds_b69 at h
  refine xo_14 ?_
  refine xo_4 (ls' := [.ref 0, .int x1, .int x2, .int (s1 + s0), .int x4, .int x5, .int x6, .int x7]) rfl ?_
  refine xo_1 rfl ?_
  refine xo_1 rfl ?_
  refine xo_66 (t := jm_b188_86) rfl (fun hc1 => ?_) (fun hc1 => ?_)
  · replace h := jw_pos hc1 h
    exact t_X10_kinds_b86 hS hk35 h
  · replace h := jw_neg hc1 h
    refine xo_1 rfl ?_
    refine xo_5 (ls' := [.ref 0, .int x1, .int x2, .int (s1 + s0), .int x7, .int x5, .int x6, .int x7]) rfl ?_
    refine xo_1 rfl ?_
    refine xo_5 (ls' := [.ref 0, .int x1, .int x2, .int (s1 + s0), .int x7, .int x6, .int x6, .int x7]) rfl ?_
    exact t_X10_kinds_b86 hS hk35 h
theorem t_X10_kinds_b35 {S : jS} (hS : jCok S) {d : Nat} {Q : Option Value → jx_H → Prop} : ∀ (n : Nat) {x1 : Int32} {x2 : Int32} {x3 : Int32} {x4 : Int32} {x5 : Int32} {x6 : Int32} {w7 : Value} {σ : jT}, jw (f_X10_kinds_b35 n x1 x2 x3 x4 x5 x6 σ) (fun q => Q (some (.int q.1)) (jh S q.2)) → jx_Ex (d + 5) jm_l188 jm_b188_35 [.ref 0, .int x1, .int x2, .int x3, .int x4, .int x5, .int x6, w7] [] (jh S σ) Q := by
  intro n
  induction n with
  | zero => intro x1 x2 x3 x4 x5 x6 w7 σ h; exact jw_none h
  | succ n ih =>
    intro x1 x2 x3 x4 x5 x6 w7 σ h
    rw [f_X10_kinds_b35] at h
    refine xo_1 rfl ?_
    refine xo_2 rfl ?_
    refine xc_33 (i := 1) (q := 3) hS ly0 rfl (xc_P hS (by decide)) ?_
    refine xo_0 rfl ?_
    refine xo_49 (st' := [.int x6]) rfl rfl (xc_ly hS ly3) rfl (Nat.le_of_ble_eq_true rfl) ?_
    refine t_X3_waysAt hS ?_
    refine jw_mono (jw_bind h) (fun q1 h => ?_)
    show jx_Ex _ _ _ _ [.int q1.1, .int x6] (jh S q1.2) _
    refine xo_64 (t := jm_b188_92) rfl (fun hc2 => ?_) (fun hc2 => ?_)
    · replace h := jw_pos hc2 h
      refine xo_2 rfl ?_
      refine xc_33 (i := 5) (q := 47) hS ly0 rfl (xc_P hS (by decide)) ?_
      refine xo_1 rfl ?_
      refine xo_1 rfl ?_
      refine xo_49 (st' := []) rfl rfl (xc_ly hS ly47) rfl (Nat.le_of_ble_eq_true rfl) ?_
      refine t_X6_tell_ hS ?_
      refine jw_mono (jw_bind h) (fun q3 h => ?_)
      show jx_Ex _ _ _ _ [] (jh S q3.2) _
      refine xo_0 rfl ?_
      replace h := jw_some h
      exact xo_69 h
    · replace h := jw_neg hc2 h
      refine xo_2 rfl ?_
      refine xo_1 rfl ?_
      refine xo_0 rfl ?_
      refine xo_0 rfl ?_
      refine xo_49 (st' := []) rfl rfl (xc_ly hS ly0) rfl (Nat.le_of_ble_eq_true rfl) ?_
      refine t_X10_holdersOf hS ?_
      refine jw_mono (jw_bind h) (fun q4 h => ?_)
      show jx_Ex _ _ _ _ [.int q4.1] (jh S q4.2) _
      refine xo_5 (ls' := [.ref 0, .int x1, .int x2, .int x3, .int x4, .int x5, .int x6, .int q4.1]) rfl ?_
      refine xo_0 rfl ?_
      refine xo_1 rfl ?_
      refine xo_60 (t := jm_b188_68) rfl (fun hc5 => ?_) (fun hc5 => ?_)
      · replace h := jw_pos hc5 h
        refine xo_8 ?_
        exact t_X10_kinds_b69 hS ih h
      · replace h := jw_neg hc5 h
        refine xo_8 ?_
        refine xo_54 (t := jm_b188_69) rfl ?_
        exact t_X10_kinds_b69 hS ih h
theorem t_X10_kinds {S : jS} (hS : jCok S) {d : Nat} {Q : Option Value → jx_H → Prop} {x1 : Int32} {x2 : Int32} {σ : jT} (h : jw (f_X10_kinds x1 x2 σ) (fun q => Q (some (.int q.1)) (jh S q.2))) : jx_Sp (d + 5) 188 [.ref 0, .int x1, .int x2] (jh S σ) Q := by
  refine ⟨jm_i188, jm_at188, rfl, rfl, ?_⟩
  show jx_Ex _ jm_l188 jm_b188_0 [.ref 0, .int x1, .int x2, .retAddr 0, .retAddr 0, .retAddr 0, .retAddr 0, .retAddr 0] [] _ _
  unfold f_X10_kinds at h
  refine xo_2 rfl ?_
  refine xc_33 (i := 1) (q := 3) hS ly0 rfl (xc_P hS (by decide)) ?_
  refine xo_0 rfl ?_
  refine xo_49 (st' := []) rfl rfl (xc_ly hS ly3) rfl (Nat.le_of_ble_eq_true rfl) ?_
  refine t_X3_hasRiders hS ?_
  refine jw_mono (jw_bind h) (fun q1 h => ?_)
  show jx_Ex _ _ _ _ [.int q1.1] (jh S q1.2) _
  refine xo_55 (t := jm_b188_22) rfl (fun hc2 => ?_) (fun hc2 => ?_)
  · replace h := jw_pos hc2 h
    refine xo_8 ?_
    replace h := jw_some h
    exact xo_69 h
  · replace h := jw_neg hc2 h
    refine xo_2 rfl ?_
    refine xc_33 (i := 1) (q := 3) hS ly0 rfl (xc_P hS (by decide)) ?_
    refine xo_0 rfl ?_
    refine xo_49 (st' := []) rfl rfl (xc_ly hS ly3) rfl (Nat.le_of_ble_eq_true rfl) ?_
    refine t_X3_hasPlace hS ?_
    refine jw_mono (jw_bind h) (fun q3 h => ?_)
    show jx_Ex _ _ _ _ [.int q3.1] (jh S q3.2) _
    refine xo_56 (t := jm_b188_24) rfl (fun hc4 => ?_) (fun hc4 => ?_)
    · replace h := jw_pos hc4 h
      refine xo_8 ?_
      refine xo_4 (ls' := [.ref 0, .int x1, .int x2, .int 0, .retAddr 0, .retAddr 0, .retAddr 0, .retAddr 0]) rfl ?_
      refine xo_8 ?_
      refine xo_5 (ls' := [.ref 0, .int x1, .int x2, .int 0, .int 0, .retAddr 0, .retAddr 0, .retAddr 0]) rfl ?_
      refine xo_8 ?_
      refine xo_5 (ls' := [.ref 0, .int x1, .int x2, .int 0, .int 0, .int (-1), .retAddr 0, .retAddr 0]) rfl ?_
      refine xo_8 ?_
      refine xo_5 (ls' := [.ref 0, .int x1, .int x2, .int 0, .int 0, .int (-1), .int 0, .retAddr 0]) rfl ?_
      exact t_X10_kinds_b35 hS 1000 h
    · replace h := jw_neg hc4 h
      refine xo_8 ?_
      replace h := jw_some h
      exact xo_69 h
/-- OfDifferentMinds.farthestRidden, at ['x'] -/
def f_X10_farthestRidden_b36 (k6 : Int32 → Int32 → Int32 → jT → Option (Int32 × jT)) (x1 : Int32) (x2 : Int32) (x3 : Int32) (σ : jT) : Option (Int32 × jT) :=
  k6 x1 x2 (x3 + 1) σ
def f_X10_farthestRidden_b6 : Nat → Int32 → Int32 → Int32 → jT → Option (Int32 × jT)
  | 0, _, _, _, _ => none
  | n + 1, x1, x2, x3, σ =>
    (f_X3_riderCount σ).bind fun q1 =>
    if q1.1 ≤ x3 then
      some (x1, q1.2)
    else
      if jx_in x3 6 then
      if (q1.2.2 63 x3.toNatClampNeg) ≤ x2 then
        f_X10_farthestRidden_b36 (f_X10_farthestRidden_b6 n) x1 x2 x3 q1.2
      else
        f_X10_farthestRidden_b36 (f_X10_farthestRidden_b6 n) x3 (q1.2.2 63 x3.toNatClampNeg) x3 q1.2
      else none
def f_X10_farthestRidden (σ : jT) : Option (Int32 × jT) :=
  f_X10_farthestRidden_b6 1000 (-1) 0 0 σ
theorem t_X10_farthestRidden_b36 {S : jS} (hS : jCok S) {d : Nat} {Q : Option Value → jx_H → Prop} {k6 : Int32 → Int32 → Int32 → jT → Option (Int32 × jT)} (hk6 : ∀ {x1 : Int32} {x2 : Int32} {x3 : Int32} {σ : jT}, jw (k6 x1 x2 x3 σ) (fun q => Q (some (.int q.1)) (jh S q.2)) → jx_Ex (d + 1) jm_l193 jm_b193_6 [.ref 0, .int x1, .int x2, .int x3] [] (jh S σ) Q) {x1 : Int32} {x2 : Int32} {x3 : Int32} {σ : jT} (h : jw (f_X10_farthestRidden_b36 k6 x1 x2 x3 σ) (fun q => Q (some (.int q.1)) (jh S q.2))) : jx_Ex (d + 1) jm_l193 jm_b193_36 [.ref 0, .int x1, .int x2, .int x3] [] (jh S σ) Q := by
  unfold f_X10_farthestRidden_b36 at h
  refine xo_13 (ls' := [.ref 0, .int x1, .int x2, .int (x3 + 1)]) rfl rfl ?_
  refine xo_54 (t := jm_b193_6) rfl ?_
  exact hk6 h
theorem t_X10_farthestRidden_b6 {S : jS} (hS : jCok S) {d : Nat} {Q : Option Value → jx_H → Prop} : ∀ (n : Nat) {x1 : Int32} {x2 : Int32} {x3 : Int32} {σ : jT}, jw (f_X10_farthestRidden_b6 n x1 x2 x3 σ) (fun q => Q (some (.int q.1)) (jh S q.2)) → jx_Ex (d + 1) jm_l193 jm_b193_6 [.ref 0, .int x1, .int x2, .int x3] [] (jh S σ) Q := by
  intro n
  induction n with
  | zero => intro x1 x2 x3 σ h; exact jw_none h
  | succ n ih =>
    intro x1 x2 x3 σ h
    rw [f_X10_farthestRidden_b6] at h
    refine xo_0 rfl ?_
    refine xo_2 rfl ?_
    refine xc_33 (i := 1) (q := 3) hS ly0 rfl (xc_P hS (by decide)) ?_
    refine xo_49 (st' := [.int x3]) rfl rfl (xc_ly hS ly3) rfl (Nat.le_of_ble_eq_true rfl) ?_
    refine t_X3_riderCount hS ?_
    refine jw_mono (jw_bind h) (fun q1 h => ?_)
    show jx_Ex _ _ _ _ [.int q1.1, .int x3] (jh S q1.2) _
    refine xo_64 (t := jm_b193_42) rfl (fun hc2 => ?_) (fun hc2 => ?_)
    · replace h := jw_pos hc2 h
      refine xo_0 rfl ?_
      replace h := jw_some h
      exact xo_69 h
    · replace h := jw_neg hc2 h
      refine xo_2 rfl ?_
      refine xc_33 (i := 10) (q := 63) hS ly0 rfl (xc_P hS (by decide)) ?_
      refine xo_0 rfl ?_
      obtain ⟨hi3, h⟩ := jw_chk h
      refine xc_38 (j := x3.toNatClampNeg) (v := (q1.2.2 63 x3.toNatClampNeg)) hS ly63 ⟨Nat.le_of_ble_eq_true rfl, Nat.le_of_ble_eq_true rfl⟩ hi3 rfl rfl ?_
      refine xo_0 rfl ?_
      refine xo_66 (t := jm_b193_36) rfl (fun hc4 => ?_) (fun hc4 => ?_)
      · replace h := jw_pos hc4 h
        exact t_X10_farthestRidden_b36 hS ih h
      · replace h := jw_neg hc4 h
        refine xo_2 rfl ?_
        refine xc_33 (i := 10) (q := 63) hS ly0 rfl (xc_P hS (by decide)) ?_
        refine xo_0 rfl ?_
        refine xc_38 (j := x3.toNatClampNeg) (v := (q1.2.2 63 x3.toNatClampNeg)) hS ly63 ⟨Nat.le_of_ble_eq_true rfl, Nat.le_of_ble_eq_true rfl⟩ hi3 rfl rfl ?_
        refine xo_4 (ls' := [.ref 0, .int x1, .int (q1.2.2 63 x3.toNatClampNeg), .int x3]) rfl ?_
        refine xo_0 rfl ?_
        refine xo_4 (ls' := [.ref 0, .int x3, .int (q1.2.2 63 x3.toNatClampNeg), .int x3]) rfl ?_
        exact t_X10_farthestRidden_b36 hS ih h
theorem t_X10_farthestRidden {S : jS} (hS : jCok S) {d : Nat} {Q : Option Value → jx_H → Prop} {σ : jT} (h : jw (f_X10_farthestRidden σ) (fun q => Q (some (.int q.1)) (jh S q.2))) : jx_Sp (d + 1) 193 [.ref 0] (jh S σ) Q := by
  refine ⟨jm_i193, jm_at193, rfl, rfl, ?_⟩
  show jx_Ex _ jm_l193 jm_b193_0 [.ref 0, .retAddr 0, .retAddr 0, .retAddr 0] [] _ _
  unfold f_X10_farthestRidden at h
  refine xo_8 ?_
  refine xo_4 (ls' := [.ref 0, .int (-1), .retAddr 0, .retAddr 0]) rfl ?_
  refine xo_8 ?_
  refine xo_4 (ls' := [.ref 0, .int (-1), .int 0, .retAddr 0]) rfl ?_
  refine xo_8 ?_
  refine xo_4 (ls' := [.ref 0, .int (-1), .int 0, .int 0]) rfl ?_
  exact t_X10_farthestRidden_b6 hS 1000 h
/-- OfDifferentMinds.draw, at ['x', 'int'] -/
def f_X10_draw (x1 : Int32) (σ : jT) : Option (Int32 × jT) :=
  if x1 ≤ 0 then
    some (0, (gs σ 13 (((σ.1 13) * 1103515245) + 12345)))
  else
    if x1 = 0 then none else
    some (((((((σ.1 13) * 1103515245) + 12345).toUInt32 >>> ((16 : Int32).toUInt32 &&& Int32.toUInt32 31)).toInt32) - (((((σ.1 13) * 1103515245) + 12345).toUInt32 >>> ((16 : Int32).toUInt32 &&& Int32.toUInt32 31)).toInt32) / x1 * x1), (gs σ 13 (((σ.1 13) * 1103515245) + 12345)))
theorem t_X10_draw {S : jS} (hS : jCok S) {d : Nat} {Q : Option Value → jx_H → Prop} {x1 : Int32} {σ : jT} (h : jw (f_X10_draw x1 σ) (fun q => Q (some (.int q.1)) (jh S q.2))) : jx_Sp (d) 192 [.ref 0, .int x1] (jh S σ) Q := by
  refine ⟨jm_i192, jm_at192, rfl, rfl, ?_⟩
  show jx_Ex _ jm_l192 jm_b192_0 [.ref 0, .int x1] [] _ _
  unfold f_X10_draw at h
  refine xo_2 rfl ?_
  refine xo_2 rfl ?_
  refine xc_32 (i := 13) (v := (σ.1 13)) hS ly0 rfl ⟨Nat.le_of_ble_eq_true rfl, Nat.le_of_ble_eq_true rfl⟩ rfl ?_
  refine xo_12 ?_
  refine xo_16 ?_
  refine xo_10 ?_
  refine xo_14 ?_
  refine xc_34 (i := 13) hS ly0 rfl ⟨Nat.le_of_ble_eq_true rfl, Nat.le_of_ble_eq_true rfl⟩ ?_
  refine xo_0 rfl ?_
  refine xo_60 (t := jm_b192_32) rfl (fun hc1 => ?_) (fun hc1 => ?_)
  · replace h := jw_pos hc1 h
    refine xo_8 ?_
    replace h := jw_some h
    exact xo_69 h
  · replace h := jw_neg hc1 h
    refine xo_2 rfl ?_
    refine xc_32 (i := 13) (v := (((σ.1 13) * 1103515245) + 12345)) hS ly0 rfl ⟨Nat.le_of_ble_eq_true rfl, Nat.le_of_ble_eq_true rfl⟩ rfl ?_
    refine xo_9 ?_
    refine xo_25 ?_
    refine xo_0 rfl ?_
    obtain ⟨hy2, h⟩ := jw_chn h
    refine xo_18 hy2 ?_
    refine xo_54 (t := jm_b192_33) rfl ?_
    replace h := jw_some h
    exact xo_69 h
/-- OfDifferentMinds.rideInCounty, at ['x', 'int'] -/
def f_X10_rideInCounty_b50 (x1 : Int32) (x2 : Int32) (x3 : Int32) (σ : jT) : Option (Int32 × jT) :=
  (f_X5_beginFresh x2 x3 x1 σ).bind fun q1 =>
  (f_X5_go 20 q1.2).bind fun q2 =>
  (f_X5_taken q2.2).bind fun q3 =>
  if jx_in x2 6 then
  if jx_in x3 6 then
  some (q3.1, (gA (gA q3.2 63 x2.toNatClampNeg ((q3.2.2 63 x2.toNatClampNeg) + q3.1)) 63 x3.toNatClampNeg (((gA q3.2 63 x2.toNatClampNeg ((q3.2.2 63 x2.toNatClampNeg) + q3.1)).2 63 x3.toNatClampNeg) + q3.1)))
  else none
  else none
def f_X10_rideInCounty_b49 (x1 : Int32) (x2 : Int32) (s0 : Int32) (σ : jT) : Option (Int32 × jT) :=
  f_X10_rideInCounty_b50 x1 x2 s0 σ
def f_X10_rideInCounty (x1 : Int32) (σ : jT) : Option (Int32 × jT) :=
  (f_X3_riderCount σ).bind fun q1 =>
  (f_X10_draw q1.1 q1.2).bind fun q2 =>
  (f_X3_riderCount q2.2).bind fun q3 =>
  (f_X10_draw q3.1 q3.2).bind fun q4 =>
  if ¬ q4.1 = q2.1 then
    f_X10_rideInCounty_b50 x1 q2.1 q4.1 q4.2
  else
    (f_X3_riderCount q4.2).bind fun q6 =>
    if q6.1 ≤ (q2.1 + 1) then
      f_X10_rideInCounty_b49 x1 q2.1 0 q6.2
    else
      f_X10_rideInCounty_b49 x1 q2.1 (q2.1 + 1) q6.2
theorem t_X10_rideInCounty_b50 {S : jS} (hS : jCok S) {d : Nat} {Q : Option Value → jx_H → Prop} {x1 : Int32} {x2 : Int32} {x3 : Int32} {w4 : Value} {σ : jT} (h : jw (f_X10_rideInCounty_b50 x1 x2 x3 σ) (fun q => Q (some (.int q.1)) (jh S q.2))) : jx_Ex (d + 5) jm_l191 jm_b191_50 [.ref 0, .int x1, .int x2, .int x3, w4] [] (jh S σ) Q := by
  unfold f_X10_rideInCounty_b50 at h
  refine xo_2 rfl ?_
  refine xc_33 (i := 6) (q := 49) hS ly0 rfl (xc_P hS (by decide)) ?_
  refine xo_0 rfl ?_
  refine xo_0 rfl ?_
  refine xo_0 rfl ?_
  refine xo_49 (st' := []) rfl rfl (xc_ly hS ly49) rfl (Nat.le_of_ble_eq_true rfl) ?_
  refine t_X5_beginFresh hS ?_
  refine jw_mono (jw_bind h) (fun q1 h => ?_)
  show jx_Ex _ _ _ _ [] (jh S q1.2) _
  refine xo_2 rfl ?_
  refine xc_33 (i := 6) (q := 49) hS ly0 rfl (xc_P hS (by decide)) ?_
  refine xo_9 ?_
  refine xo_49 (st' := []) rfl rfl (xc_ly hS ly49) rfl (Nat.le_of_ble_eq_true rfl) ?_
  refine t_X5_go hS ?_
  refine jw_mono (jw_bind h) (fun q2 h => ?_)
  show jx_Ex _ _ _ _ [] (jh S q2.2) _
  refine xo_2 rfl ?_
  refine xc_33 (i := 6) (q := 49) hS ly0 rfl (xc_P hS (by decide)) ?_
  refine xo_49 (st' := []) rfl rfl (xc_ly hS ly49) rfl (Nat.le_of_ble_eq_true rfl) ?_
  refine t_X5_taken hS ?_
  refine jw_mono (jw_bind h) (fun q3 h => ?_)
  show jx_Ex _ _ _ _ [.int q3.1] (jh S q3.2) _
  refine xo_5 (ls' := [.ref 0, .int x1, .int x2, .int x3, .int q3.1]) rfl ?_
  refine xo_2 rfl ?_
  refine xc_33 (i := 10) (q := 63) hS ly0 rfl (xc_P hS (by decide)) ?_
  refine xo_0 rfl ?_
  refine xo_2 rfl ?_
  refine xc_33 (i := 10) (q := 63) hS ly0 rfl (xc_P hS (by decide)) ?_
  refine xo_0 rfl ?_
  obtain ⟨hi4, h⟩ := jw_chk h
  refine xc_38 (j := x2.toNatClampNeg) (v := (q3.2.2 63 x2.toNatClampNeg)) hS ly63 ⟨Nat.le_of_ble_eq_true rfl, Nat.le_of_ble_eq_true rfl⟩ hi4 rfl rfl ?_
  refine xo_1 rfl ?_
  refine xo_14 ?_
  refine xc_41 (j := x2.toNatClampNeg) hS ly63 ⟨Nat.le_of_ble_eq_true rfl, Nat.le_of_ble_eq_true rfl⟩ hi4 rfl ?_
  refine xo_2 rfl ?_
  refine xc_33 (i := 10) (q := 63) hS ly0 rfl (xc_P hS (by decide)) ?_
  refine xo_0 rfl ?_
  refine xo_2 rfl ?_
  refine xc_33 (i := 10) (q := 63) hS ly0 rfl (xc_P hS (by decide)) ?_
  refine xo_0 rfl ?_
  obtain ⟨hi5, h⟩ := jw_chk h
  refine xc_38 (j := x3.toNatClampNeg) (v := ((gA q3.2 63 x2.toNatClampNeg ((q3.2.2 63 x2.toNatClampNeg) + q3.1)).2 63 x3.toNatClampNeg)) hS ly63 ⟨Nat.le_of_ble_eq_true rfl, Nat.le_of_ble_eq_true rfl⟩ hi5 rfl rfl ?_
  refine xo_1 rfl ?_
  refine xo_14 ?_
  refine xc_41 (j := x3.toNatClampNeg) hS ly63 ⟨Nat.le_of_ble_eq_true rfl, Nat.le_of_ble_eq_true rfl⟩ hi5 rfl ?_
  refine xo_1 rfl ?_
  replace h := jw_some h
  exact xo_69 h
theorem t_X10_rideInCounty_b49 {S : jS} (hS : jCok S) {d : Nat} {Q : Option Value → jx_H → Prop} {x1 : Int32} {x2 : Int32} {s0 : Int32} {w3 : Value} {w4 : Value} {σ : jT} (h : jw (f_X10_rideInCounty_b49 x1 x2 s0 σ) (fun q => Q (some (.int q.1)) (jh S q.2))) : jx_Ex (d + 5) jm_l191 jm_b191_49 [.ref 0, .int x1, .int x2, w3, w4] [.int s0] (jh S σ) Q := by
  unfold f_X10_rideInCounty_b49 at h
  refine xo_4 (ls' := [.ref 0, .int x1, .int x2, .int s0, w4]) rfl ?_
  exact t_X10_rideInCounty_b50 hS h
theorem t_X10_rideInCounty {S : jS} (hS : jCok S) {d : Nat} {Q : Option Value → jx_H → Prop} {x1 : Int32} {σ : jT} (h : jw (f_X10_rideInCounty x1 σ) (fun q => Q (some (.int q.1)) (jh S q.2))) : jx_Sp (d + 5) 191 [.ref 0, .int x1] (jh S σ) Q := by
  refine ⟨jm_i191, jm_at191, rfl, rfl, ?_⟩
  show jx_Ex _ jm_l191 jm_b191_0 [.ref 0, .int x1, .retAddr 0, .retAddr 0, .retAddr 0] [] _ _
  unfold f_X10_rideInCounty at h
  refine xo_2 rfl ?_
  refine xo_2 rfl ?_
  refine xc_33 (i := 1) (q := 3) hS ly0 rfl (xc_P hS (by decide)) ?_
  refine xo_49 (st' := [.ref 0]) rfl rfl (xc_ly hS ly3) rfl (Nat.le_of_ble_eq_true rfl) ?_
  refine t_X3_riderCount hS ?_
  refine jw_mono (jw_bind h) (fun q1 h => ?_)
  show jx_Ex _ _ _ _ [.int q1.1, .ref 0] (jh S q1.2) _
  refine xo_49 (st' := []) rfl rfl (xc_ly hS ly0) rfl (Nat.le_of_ble_eq_true rfl) ?_
  refine t_X10_draw hS ?_
  refine jw_mono (jw_bind h) (fun q2 h => ?_)
  show jx_Ex _ _ _ _ [.int q2.1] (jh S q2.2) _
  refine xo_4 (ls' := [.ref 0, .int x1, .int q2.1, .retAddr 0, .retAddr 0]) rfl ?_
  refine xo_2 rfl ?_
  refine xo_2 rfl ?_
  refine xc_33 (i := 1) (q := 3) hS ly0 rfl (xc_P hS (by decide)) ?_
  refine xo_49 (st' := [.ref 0]) rfl rfl (xc_ly hS ly3) rfl (Nat.le_of_ble_eq_true rfl) ?_
  refine t_X3_riderCount hS ?_
  refine jw_mono (jw_bind h) (fun q3 h => ?_)
  show jx_Ex _ _ _ _ [.int q3.1, .ref 0] (jh S q3.2) _
  refine xo_49 (st' := []) rfl rfl (xc_ly hS ly0) rfl (Nat.le_of_ble_eq_true rfl) ?_
  refine t_X10_draw hS ?_
  refine jw_mono (jw_bind h) (fun q4 h => ?_)
  show jx_Ex _ _ _ _ [.int q4.1] (jh S q4.2) _
  refine xo_4 (ls' := [.ref 0, .int x1, .int q2.1, .int q4.1, .retAddr 0]) rfl ?_
  refine xo_0 rfl ?_
  refine xo_0 rfl ?_
  refine xo_62 (t := jm_b191_50) rfl (fun hc5 => ?_) (fun hc5 => ?_)
  · replace h := jw_pos hc5 h
    exact t_X10_rideInCounty_b50 hS h
  · replace h := jw_neg hc5 h
    refine xo_0 rfl ?_
    refine xo_8 ?_
    refine xo_14 ?_
    refine xo_2 rfl ?_
    refine xc_33 (i := 1) (q := 3) hS ly0 rfl (xc_P hS (by decide)) ?_
    refine xo_49 (st' := [.int (q2.1 + 1)]) rfl rfl (xc_ly hS ly3) rfl (Nat.le_of_ble_eq_true rfl) ?_
    refine t_X3_riderCount hS ?_
    refine jw_mono (jw_bind h) (fun q6 h => ?_)
    show jx_Ex _ _ _ _ [.int q6.1, .int (q2.1 + 1)] (jh S q6.2) _
    refine xo_64 (t := jm_b191_48) rfl (fun hc7 => ?_) (fun hc7 => ?_)
    · replace h := jw_pos hc7 h
      refine xo_8 ?_
      exact t_X10_rideInCounty_b49 hS h
    · replace h := jw_neg hc7 h
      refine xo_0 rfl ?_
      refine xo_8 ?_
      refine xo_14 ?_
      refine xo_54 (t := jm_b191_49) rfl ?_
      exact t_X10_rideInCounty_b49 hS h
/-- OfDifferentMinds.county, at ['x', 'int', 'int'] -/
def f_X10_county_b110 (k70 : Int32 → Int32 → Int32 → Int32 → Int32 → jT → Option (Int32 × jT)) (x2 : Int32) (x3 : Int32) (x4 : Int32) (x6 : Int32) (s0 : Int32) (s1 : Int32) (σ : jT) : Option (Int32 × jT) :=
  k70 x2 x3 x4 (s1 + s0) (x6 + 1) σ
def f_X10_county_b70 : Nat → Int32 → Int32 → Int32 → Int32 → Int32 → jT → Option (Int32 × jT)
  | 0, _, _, _, _, _, _ => none
  | n + 1, x2, x3, x4, x5, x6, σ =>
    if x2 ≤ x6 then
      (f_X10_farthestRidden σ).bind fun q2 =>
      (f_X6_tell__ x3 q2.1 x5 q2.2).bind fun q3 =>
      some (x4, q3.2)
    else
      (f_X10_rideInCounty x3 σ).bind fun q4 =>
      (f_X5_spot q4.2).bind fun q5 =>
      if ¬ q4.1 = 0 then
        f_X10_county_b110 (f_X10_county_b70 n) x2 q5.1 (x4 + q4.1) x6 0 x5 q5.2
      else
        f_X10_county_b110 (f_X10_county_b70 n) x2 q5.1 (x4 + q4.1) x6 1 x5 q5.2
def f_X10_county_b29 : Nat → Int32 → Int32 → Int32 → jT → Option (Int32 × jT)
  | 0, _, _, _, _ => none
  | n + 1, x1, x2, x3, σ =>
    if 6 ≤ x3 then
      (f_X8_horse (gs σ 13 x1)).bind fun q2 =>
      f_X10_county_b70 1000 x2 q2.1 0 0 0 q2.2
    else
      if jx_in x3 6 then
      f_X10_county_b29 n x1 x2 (x3 + 1) (gA σ 63 x3.toNatClampNeg 0)
      else none
def f_X10_county (x1 : Int32) (x2 : Int32) (σ : jT) : Option (Int32 × jT) :=
  if x2 < 1 then
    some ((-1), σ)
  else
    if x2 ≤ 60 then
      (f_X3_riderCount σ).bind fun q3 =>
      if 2 ≤ q3.1 then
        f_X10_county_b29 1000 x1 x2 0 q3.2
      else
        some ((-2), q3.2)
    else
      some ((-1), σ)
theorem t_X10_county_b110 {S : jS} (hS : jCok S) {d : Nat} {Q : Option Value → jx_H → Prop} {k70 : Int32 → Int32 → Int32 → Int32 → Int32 → jT → Option (Int32 × jT)} (hk70 : ∀ {x2 : Int32} {x3 : Int32} {x4 : Int32} {x5 : Int32} {x6 : Int32} {w1 : Value} {w7 : Value} {σ : jT}, jw (k70 x2 x3 x4 x5 x6 σ) (fun q => Q (some (.int q.1)) (jh S q.2)) → jx_Ex (d + 6) jm_l190 jm_b190_70 [.ref 0, w1, .int x2, .int x3, .int x4, .int x5, .int x6, w7] [] (jh S σ) Q) {x2 : Int32} {x3 : Int32} {x4 : Int32} {x6 : Int32} {s0 : Int32} {s1 : Int32} {w1 : Value} {w5 : Value} {w7 : Value} {σ : jT} (h : jw (f_X10_county_b110 k70 x2 x3 x4 x6 s0 s1 σ) (fun q => Q (some (.int q.1)) (jh S q.2))) : jx_Ex (d + 6) jm_l190 jm_b190_110 [.ref 0, w1, .int x2, .int x3, .int x4, w5, .int x6, w7] [.int s0, .int s1] (jh S σ) Q := by
  unfold f_X10_county_b110 at h
  refine xo_14 ?_
  refine xo_5 (ls' := [.ref 0, w1, .int x2, .int x3, .int x4, .int (s1 + s0), .int x6, w7]) rfl ?_
  refine xo_13 (ls' := [.ref 0, w1, .int x2, .int x3, .int x4, .int (s1 + s0), .int (x6 + 1), w7]) rfl rfl ?_
  refine xo_54 (t := jm_b190_70) rfl ?_
  exact hk70 h
theorem t_X10_county_b70 {S : jS} (hS : jCok S) {d : Nat} {Q : Option Value → jx_H → Prop} : ∀ (n : Nat) {x2 : Int32} {x3 : Int32} {x4 : Int32} {x5 : Int32} {x6 : Int32} {w1 : Value} {w7 : Value} {σ : jT}, jw (f_X10_county_b70 n x2 x3 x4 x5 x6 σ) (fun q => Q (some (.int q.1)) (jh S q.2)) → jx_Ex (d + 6) jm_l190 jm_b190_70 [.ref 0, w1, .int x2, .int x3, .int x4, .int x5, .int x6, w7] [] (jh S σ) Q := by
  intro n
  induction n with
  | zero => intro x2 x3 x4 x5 x6 w1 w7 σ h; exact jw_none h
  | succ n ih =>
    intro x2 x3 x4 x5 x6 w1 w7 σ h
    rw [f_X10_county_b70] at h
    refine xo_1 rfl ?_
    refine xo_0 rfl ?_
    refine xo_64 (t := jm_b190_119) rfl (fun hc1 => ?_) (fun hc1 => ?_)
    · replace h := jw_pos hc1 h
      refine xo_2 rfl ?_
      refine xc_33 (i := 5) (q := 47) hS ly0 rfl (xc_P hS (by decide)) ?_
      refine xo_0 rfl ?_
      refine xo_2 rfl ?_
      refine xo_49 (st' := [.int x3, .ref 47]) rfl rfl (xc_ly hS ly0) rfl (Nat.le_of_ble_eq_true rfl) ?_
      refine t_X10_farthestRidden hS ?_
      refine jw_mono (jw_bind h) (fun q2 h => ?_)
      show jx_Ex _ _ _ _ [.int q2.1, .int x3, .ref 47] (jh S q2.2) _
      refine xo_1 rfl ?_
      refine xo_49 (st' := []) rfl rfl (xc_ly hS ly47) rfl (Nat.le_of_ble_eq_true rfl) ?_
      refine t_X6_tell__ hS ?_
      refine jw_mono (jw_bind h) (fun q3 h => ?_)
      show jx_Ex _ _ _ _ [] (jh S q3.2) _
      refine xo_1 rfl ?_
      replace h := jw_some h
      exact xo_69 h
    · replace h := jw_neg hc1 h
      refine xo_2 rfl ?_
      refine xo_0 rfl ?_
      refine xo_49 (st' := []) rfl rfl (xc_ly hS ly0) rfl (Nat.le_of_ble_eq_true rfl) ?_
      refine t_X10_rideInCounty hS ?_
      refine jw_mono (jw_bind h) (fun q4 h => ?_)
      show jx_Ex _ _ _ _ [.int q4.1] (jh S q4.2) _
      refine xo_5 (ls' := [.ref 0, w1, .int x2, .int x3, .int x4, .int x5, .int x6, .int q4.1]) rfl ?_
      refine xo_2 rfl ?_
      refine xc_33 (i := 6) (q := 49) hS ly0 rfl (xc_P hS (by decide)) ?_
      refine xo_49 (st' := []) rfl rfl (xc_ly hS ly49) rfl (Nat.le_of_ble_eq_true rfl) ?_
      refine t_X5_spot hS ?_
      refine jw_mono (jw_bind h) (fun q5 h => ?_)
      show jx_Ex _ _ _ _ [.int q5.1] (jh S q5.2) _
      refine xo_4 (ls' := [.ref 0, w1, .int x2, .int q5.1, .int x4, .int x5, .int x6, .int q4.1]) rfl ?_
      refine xo_1 rfl ?_
      refine xo_1 rfl ?_
      refine xo_14 ?_
      refine xo_5 (ls' := [.ref 0, w1, .int x2, .int q5.1, .int (x4 + q4.1), .int x5, .int x6, .int q4.1]) rfl ?_
      refine xo_1 rfl ?_
      refine xo_1 rfl ?_
      refine xo_56 (t := jm_b190_109) rfl (fun hc6 => ?_) (fun hc6 => ?_)
      · replace h := jw_pos hc6 h
        refine xo_8 ?_
        exact t_X10_county_b110 hS ih h
      · replace h := jw_neg hc6 h
        refine xo_8 ?_
        refine xo_54 (t := jm_b190_110) rfl ?_
        exact t_X10_county_b110 hS ih h
theorem t_X10_county_b29 {S : jS} (hS : jCok S) {d : Nat} {Q : Option Value → jx_H → Prop} : ∀ (n : Nat) {x1 : Int32} {x2 : Int32} {x3 : Int32} {w4 : Value} {w5 : Value} {w6 : Value} {w7 : Value} {σ : jT}, jw (f_X10_county_b29 n x1 x2 x3 σ) (fun q => Q (some (.int q.1)) (jh S q.2)) → jx_Ex (d + 6) jm_l190 jm_b190_29 [.ref 0, .int x1, .int x2, .int x3, w4, w5, w6, w7] [] (jh S σ) Q := by
  intro n
  induction n with
  | zero => intro x1 x2 x3 w4 w5 w6 w7 σ h; exact jw_none h
  | succ n ih =>
    intro x1 x2 x3 w4 w5 w6 w7 σ h
    rw [f_X10_county_b29] at h
    refine xo_0 rfl ?_
    refine xo_9 ?_
    refine xo_64 (t := jm_b190_48) rfl (fun hc1 => ?_) (fun hc1 => ?_)
    · replace h := jw_pos hc1 h
      refine xo_2 rfl ?_
      refine xo_0 rfl ?_
      refine xc_34 (i := 13) hS ly0 rfl ⟨Nat.le_of_ble_eq_true rfl, Nat.le_of_ble_eq_true rfl⟩ ?_
      refine xo_2 rfl ?_
      refine xc_33 (i := 3) (q := 12) hS ly0 rfl (xc_P hS (by decide)) ?_
      refine xo_49 (st' := []) rfl rfl (xc_ly hS ly12) rfl (Nat.le_of_ble_eq_true rfl) ?_
      refine t_X8_horse hS ?_
      refine jw_mono (jw_bind h) (fun q2 h => ?_)
      show jx_Ex _ _ _ _ [.int q2.1] (jh S q2.2) _
      refine xo_4 (ls' := [.ref 0, .int x1, .int x2, .int q2.1, w4, w5, w6, w7]) rfl ?_
      refine xo_8 ?_
      refine xo_5 (ls' := [.ref 0, .int x1, .int x2, .int q2.1, .int 0, w5, w6, w7]) rfl ?_
      refine xo_8 ?_
      refine xo_5 (ls' := [.ref 0, .int x1, .int x2, .int q2.1, .int 0, .int 0, w6, w7]) rfl ?_
      refine xo_8 ?_
      refine xo_5 (ls' := [.ref 0, .int x1, .int x2, .int q2.1, .int 0, .int 0, .int 0, w7]) rfl ?_
      exact t_X10_county_b70 hS 1000 h
    · replace h := jw_neg hc1 h
      refine xo_2 rfl ?_
      refine xc_33 (i := 10) (q := 63) hS ly0 rfl (xc_P hS (by decide)) ?_
      refine xo_0 rfl ?_
      refine xo_8 ?_
      obtain ⟨hi3, h⟩ := jw_chk h
      refine xc_41 (j := x3.toNatClampNeg) hS ly63 ⟨Nat.le_of_ble_eq_true rfl, Nat.le_of_ble_eq_true rfl⟩ hi3 rfl ?_
      refine xo_13 (ls' := [.ref 0, .int x1, .int x2, .int (x3 + 1), w4, w5, w6, w7]) rfl rfl ?_
      refine xo_54 (t := jm_b190_29) rfl ?_
      exact ih h
theorem t_X10_county {S : jS} (hS : jCok S) {d : Nat} {Q : Option Value → jx_H → Prop} {x1 : Int32} {x2 : Int32} {σ : jT} (h : jw (f_X10_county x1 x2 σ) (fun q => Q (some (.int q.1)) (jh S q.2))) : jx_Sp (d + 6) 190 [.ref 0, .int x1, .int x2] (jh S σ) Q := by
  refine ⟨jm_i190, jm_at190, rfl, rfl, ?_⟩
  show jx_Ex _ jm_l190 jm_b190_0 [.ref 0, .int x1, .int x2, .retAddr 0, .retAddr 0, .retAddr 0, .retAddr 0, .retAddr 0] [] _ _
  unfold f_X10_county at h
  refine xo_0 rfl ?_
  refine xo_8 ?_
  refine xo_63 (t := jm_b190_11) rfl (fun hc1 => ?_) (fun hc1 => ?_)
  · replace h := jw_pos hc1 h
    refine xo_8 ?_
    replace h := jw_some h
    exact xo_69 h
  · replace h := jw_neg hc1 h
    refine xo_0 rfl ?_
    refine xo_9 ?_
    refine xo_66 (t := jm_b190_13) rfl (fun hc2 => ?_) (fun hc2 => ?_)
    · replace h := jw_pos hc2 h
      refine xo_2 rfl ?_
      refine xc_33 (i := 1) (q := 3) hS ly0 rfl (xc_P hS (by decide)) ?_
      refine xo_49 (st' := []) rfl rfl (xc_ly hS ly3) rfl (Nat.le_of_ble_eq_true rfl) ?_
      refine t_X3_riderCount hS ?_
      refine jw_mono (jw_bind h) (fun q3 h => ?_)
      show jx_Ex _ _ _ _ [.int q3.1] (jh S q3.2) _
      refine xo_8 ?_
      refine xo_64 (t := jm_b190_27) rfl (fun hc4 => ?_) (fun hc4 => ?_)
      · replace h := jw_pos hc4 h
        refine xo_8 ?_
        refine xo_4 (ls' := [.ref 0, .int x1, .int x2, .int 0, .retAddr 0, .retAddr 0, .retAddr 0, .retAddr 0]) rfl ?_
        exact t_X10_county_b29 hS 1000 h
      · replace h := jw_neg hc4 h
        refine xo_9 ?_
        replace h := jw_some h
        exact xo_69 h
    · replace h := jw_neg hc2 h
      refine xo_8 ?_
      replace h := jw_some h
      exact xo_69 h
/-- Standing.copy, at ['x.history.kept[0]', 'x.now'] -/
def f_X8_copy_at43_12 (σ : jT) : Option (Int32 × jT) :=
  some (0, (gC σ 13 44 0 0 28))
theorem t_X8_copy_at43_12 {S : jS} (hS : jCok S) {d : Nat} {Q : Option Value → jx_H → Prop} {σ : jT} (h : jw (f_X8_copy_at43_12 σ) (fun q => Q none (jh S q.2))) : jx_Sp (d) 89 [.ref 43, .ref 12] (jh S σ) Q := by
  refine ⟨jm_i89, jm_at89, rfl, rfl, ?_⟩
  show jx_Ex _ jm_l89 jm_b89_0 [.ref 43, .ref 12] [] _ _
  unfold f_X8_copy_at43_12 at h
  refine xo_2 rfl ?_
  refine xc_33 (i := 768) (q := 13) hS ly12 rfl (xc_P hS (by decide)) ?_
  refine xo_8 ?_
  refine xo_2 rfl ?_
  refine xc_33 (i := 2752) (q := 44) hS ly43 rfl (xc_P hS (by decide)) ?_
  refine xo_8 ?_
  refine xo_9 ?_
  refine xc_53 (sp' := 0) (dp' := 0) (n' := 28) hS ly13 ly44 ⟨Nat.le_of_ble_eq_true rfl, Nat.le_of_ble_eq_true rfl⟩ ⟨Nat.le_of_ble_eq_true rfl, Nat.le_of_ble_eq_true rfl⟩ (by decide) (by decide) (by decide) (by decide) (by decide) (by decide) (Nat.le_of_ble_eq_true rfl) ?_
  replace h := jw_some h
  exact xo_71 h
/-- Standing.copy, at ['x.history.kept[1]', 'x.now'] -/
def f_X8_copy_at45_12 (σ : jT) : Option (Int32 × jT) :=
  some (0, (gC σ 13 46 0 0 28))
theorem t_X8_copy_at45_12 {S : jS} (hS : jCok S) {d : Nat} {Q : Option Value → jx_H → Prop} {σ : jT} (h : jw (f_X8_copy_at45_12 σ) (fun q => Q none (jh S q.2))) : jx_Sp (d) 89 [.ref 45, .ref 12] (jh S σ) Q := by
  refine ⟨jm_i89, jm_at89, rfl, rfl, ?_⟩
  show jx_Ex _ jm_l89 jm_b89_0 [.ref 45, .ref 12] [] _ _
  unfold f_X8_copy_at45_12 at h
  refine xo_2 rfl ?_
  refine xc_33 (i := 768) (q := 13) hS ly12 rfl (xc_P hS (by decide)) ?_
  refine xo_8 ?_
  refine xo_2 rfl ?_
  refine xc_33 (i := 2880) (q := 46) hS ly45 rfl (xc_P hS (by decide)) ?_
  refine xo_8 ?_
  refine xo_9 ?_
  refine xc_53 (sp' := 0) (dp' := 0) (n' := 28) hS ly13 ly46 ⟨Nat.le_of_ble_eq_true rfl, Nat.le_of_ble_eq_true rfl⟩ ⟨Nat.le_of_ble_eq_true rfl, Nat.le_of_ble_eq_true rfl⟩ (by decide) (by decide) (by decide) (by decide) (by decide) (by decide) (Nat.le_of_ble_eq_true rfl) ?_
  replace h := jw_some h
  exact xo_71 h
/-- History.keepUnder, at ['x.history', 'int', 'x.now'] -/
def f_X2_keepUnder_12 (x1 : Int32) (σ : jT) : Option (Int32 × jT) :=
  if x1 < 0 then
    some (0, σ)
  else
    if x1 < 2 then
      if x1 = 0 then
        (f_X8_copy_at43_12 σ).bind fun q4 =>
        some (1, (gs q4.2 900 ((q4.2.1 900) ||| (1 <<< (x1 &&& 31)))))
      else
      if x1 = 1 then
        (f_X8_copy_at45_12 σ).bind fun q6 =>
        some (1, (gs q6.2 900 ((q6.2.1 900) ||| (1 <<< (x1 &&& 31)))))
      else
      none
    else
      some (0, σ)
theorem t_X2_keepUnder_12 {S : jS} (hS : jCok S) {d : Nat} {Q : Option Value → jx_H → Prop} {x1 : Int32} {σ : jT} (h : jw (f_X2_keepUnder_12 x1 σ) (fun q => Q (some (.int q.1)) (jh S q.2))) : jx_Sp (d + 1) 24 [.ref 14, .int x1, .ref 12] (jh S σ) Q := by
  refine ⟨jm_i24, jm_at24, rfl, rfl, ?_⟩
  show jx_Ex _ jm_l24 jm_b24_0 [.ref 14, .int x1, .ref 12] [] _ _
  unfold f_X2_keepUnder_12 at h
  refine xo_0 rfl ?_
  refine xo_57 (t := jm_b24_9) rfl (fun hc1 => ?_) (fun hc1 => ?_)
  · replace h := jw_pos hc1 h
    refine xo_8 ?_
    replace h := jw_some h
    exact xo_70 (by decide) h
  · replace h := jw_neg hc1 h
    refine xo_0 rfl ?_
    refine xo_8 ?_
    refine xo_63 (t := jm_b24_11) rfl (fun hc2 => ?_) (fun hc2 => ?_)
    · replace h := jw_pos hc2 h
      refine xo_2 rfl ?_
      refine xc_33 (i := 897) (q := 42) hS ly14 rfl (xc_P hS (by decide)) ?_
      refine xo_0 rfl ?_
      by_cases hc3 : x1 = 0
      · replace h := jw_pos hc3 h
        refine xc_44 (j := 2688) (q := 43) hS ly42 (by decide) (by rw [hc3]; decide) (by rw [hc3]; decide) (xc_P hS (by decide)) ?_
        refine xo_2 rfl ?_
        refine xo_49 (st' := []) rfl rfl (xc_ly hS ly43) rfl (Nat.le_of_ble_eq_true rfl) ?_
        refine t_X8_copy_at43_12 hS ?_
        refine jw_mono (jw_bind h) (fun q4 h => ?_)
        show jx_Ex _ _ _ _ [] (jh S q4.2) _
        refine xo_2 rfl ?_
        refine xo_2 rfl ?_
        refine xc_32 (i := 900) (v := (q4.2.1 900)) hS ly14 rfl ⟨Nat.le_of_ble_eq_true rfl, Nat.le_of_ble_eq_true rfl⟩ rfl ?_
        refine xo_8 ?_
        refine xo_0 rfl ?_
        refine xo_23 ?_
        refine xo_21 ?_
        refine xc_34 (i := 900) hS ly14 rfl ⟨Nat.le_of_ble_eq_true rfl, Nat.le_of_ble_eq_true rfl⟩ ?_
        refine xo_8 ?_
        replace h := jw_some h
        exact xo_70 (by decide) h
      replace h := jw_neg hc3 h
      by_cases hc5 : x1 = 1
      · replace h := jw_pos hc5 h
        refine xc_44 (j := 2689) (q := 45) hS ly42 (by decide) (by rw [hc5]; decide) (by rw [hc5]; decide) (xc_P hS (by decide)) ?_
        refine xo_2 rfl ?_
        refine xo_49 (st' := []) rfl rfl (xc_ly hS ly45) rfl (Nat.le_of_ble_eq_true rfl) ?_
        refine t_X8_copy_at45_12 hS ?_
        refine jw_mono (jw_bind h) (fun q6 h => ?_)
        show jx_Ex _ _ _ _ [] (jh S q6.2) _
        refine xo_2 rfl ?_
        refine xo_2 rfl ?_
        refine xc_32 (i := 900) (v := (q6.2.1 900)) hS ly14 rfl ⟨Nat.le_of_ble_eq_true rfl, Nat.le_of_ble_eq_true rfl⟩ rfl ?_
        refine xo_8 ?_
        refine xo_0 rfl ?_
        refine xo_23 ?_
        refine xo_21 ?_
        refine xc_34 (i := 900) hS ly14 rfl ⟨Nat.le_of_ble_eq_true rfl, Nat.le_of_ble_eq_true rfl⟩ ?_
        refine xo_8 ?_
        replace h := jw_some h
        exact xo_70 (by decide) h
      replace h := jw_neg hc5 h
      exact jw_none h
    · replace h := jw_neg hc2 h
      refine xo_8 ?_
      replace h := jw_some h
      exact xo_70 (by decide) h
/-- OfDifferentMinds.keep, at ['x', 'int'] -/
def f_X10_keep (x1 : Int32) (σ : jT) : Option (Int32 × jT) :=
  (f_X2_keepUnder_12 x1 σ).bind fun q1 =>
  if q1.1 = 0 ∨ q1.1 = 1 then
  some (q1.1, q1.2)
  else none
theorem t_X10_keep {S : jS} (hS : jCok S) {d : Nat} {Q : Option Value → jx_H → Prop} {x1 : Int32} {σ : jT} (h : jw (f_X10_keep x1 σ) (fun q => Q (some (.int q.1)) (jh S q.2))) : jx_Sp (d + 2) 194 [.ref 0, .int x1] (jh S σ) Q := by
  refine ⟨jm_i194, jm_at194, rfl, rfl, ?_⟩
  show jx_Ex _ jm_l194 jm_b194_0 [.ref 0, .int x1] [] _ _
  unfold f_X10_keep at h
  refine xo_2 rfl ?_
  refine xc_33 (i := 4) (q := 14) hS ly0 rfl (xc_P hS (by decide)) ?_
  refine xo_0 rfl ?_
  refine xo_2 rfl ?_
  refine xc_33 (i := 3) (q := 12) hS ly0 rfl (xc_P hS (by decide)) ?_
  refine xo_49 (st' := []) rfl rfl (xc_ly hS ly14) rfl (Nat.le_of_ble_eq_true rfl) ?_
  refine t_X2_keepUnder_12 hS ?_
  refine jw_mono (jw_bind h) (fun q1 h => ?_)
  show jx_Ex _ _ _ _ [.int q1.1] (jh S q1.2) _
  obtain ⟨hz2, h⟩ := jw_chk h
  replace h := jw_some h
  exact xo_70 hz2 h
/-- Standing.copy, at ['x.now', 'x.history.kept[0]'] -/
def f_X8_copy_at12_43 (σ : jT) : Option (Int32 × jT) :=
  some (0, (gC σ 44 13 0 0 28))
theorem t_X8_copy_at12_43 {S : jS} (hS : jCok S) {d : Nat} {Q : Option Value → jx_H → Prop} {σ : jT} (h : jw (f_X8_copy_at12_43 σ) (fun q => Q none (jh S q.2))) : jx_Sp (d) 89 [.ref 12, .ref 43] (jh S σ) Q := by
  refine ⟨jm_i89, jm_at89, rfl, rfl, ?_⟩
  show jx_Ex _ jm_l89 jm_b89_0 [.ref 12, .ref 43] [] _ _
  unfold f_X8_copy_at12_43 at h
  refine xo_2 rfl ?_
  refine xc_33 (i := 2752) (q := 44) hS ly43 rfl (xc_P hS (by decide)) ?_
  refine xo_8 ?_
  refine xo_2 rfl ?_
  refine xc_33 (i := 768) (q := 13) hS ly12 rfl (xc_P hS (by decide)) ?_
  refine xo_8 ?_
  refine xo_9 ?_
  refine xc_53 (sp' := 0) (dp' := 0) (n' := 28) hS ly44 ly13 ⟨Nat.le_of_ble_eq_true rfl, Nat.le_of_ble_eq_true rfl⟩ ⟨Nat.le_of_ble_eq_true rfl, Nat.le_of_ble_eq_true rfl⟩ (by decide) (by decide) (by decide) (by decide) (by decide) (by decide) (Nat.le_of_ble_eq_true rfl) ?_
  replace h := jw_some h
  exact xo_71 h
/-- Standing.copy, at ['x.now', 'x.history.kept[1]'] -/
def f_X8_copy_at12_45 (σ : jT) : Option (Int32 × jT) :=
  some (0, (gC σ 46 13 0 0 28))
theorem t_X8_copy_at12_45 {S : jS} (hS : jCok S) {d : Nat} {Q : Option Value → jx_H → Prop} {σ : jT} (h : jw (f_X8_copy_at12_45 σ) (fun q => Q none (jh S q.2))) : jx_Sp (d) 89 [.ref 12, .ref 45] (jh S σ) Q := by
  refine ⟨jm_i89, jm_at89, rfl, rfl, ?_⟩
  show jx_Ex _ jm_l89 jm_b89_0 [.ref 12, .ref 45] [] _ _
  unfold f_X8_copy_at12_45 at h
  refine xo_2 rfl ?_
  refine xc_33 (i := 2880) (q := 46) hS ly45 rfl (xc_P hS (by decide)) ?_
  refine xo_8 ?_
  refine xo_2 rfl ?_
  refine xc_33 (i := 768) (q := 13) hS ly12 rfl (xc_P hS (by decide)) ?_
  refine xo_8 ?_
  refine xo_9 ?_
  refine xc_53 (sp' := 0) (dp' := 0) (n' := 28) hS ly46 ly13 ⟨Nat.le_of_ble_eq_true rfl, Nat.le_of_ble_eq_true rfl⟩ ⟨Nat.le_of_ble_eq_true rfl, Nat.le_of_ble_eq_true rfl⟩ (by decide) (by decide) (by decide) (by decide) (by decide) (by decide) (Nat.le_of_ble_eq_true rfl) ?_
  replace h := jw_some h
  exact xo_71 h
/-- History.bringBack, at ['x.history', 'int', 'x.now'] -/
def f_X2_bringBack_12 (x1 : Int32) (σ : jT) : Option (Int32 × jT) :=
  if x1 < 0 then
    some (0, σ)
  else
    if 2 ≤ x1 then
      some (0, σ)
    else
      if ¬ (((σ.1 900) >>> (x1 &&& 31)) &&& 1) = 0 then
        if x1 = 0 then
          (f_X8_copy_at12_43 σ).bind fun q5 =>
          some (1, (gs q5.2 899 0))
        else
        if x1 = 1 then
          (f_X8_copy_at12_45 σ).bind fun q7 =>
          some (1, (gs q7.2 899 0))
        else
        none
      else
        some (0, σ)
theorem t_X2_bringBack_12 {S : jS} (hS : jCok S) {d : Nat} {Q : Option Value → jx_H → Prop} {x1 : Int32} {σ : jT} (h : jw (f_X2_bringBack_12 x1 σ) (fun q => Q (some (.int q.1)) (jh S q.2))) : jx_Sp (d + 1) 25 [.ref 14, .int x1, .ref 12] (jh S σ) Q := by
  refine ⟨jm_i25, jm_at25, rfl, rfl, ?_⟩
  show jx_Ex _ jm_l25 jm_b25_0 [.ref 14, .int x1, .ref 12] [] _ _
  unfold f_X2_bringBack_12 at h
  refine xo_0 rfl ?_
  refine xo_57 (t := jm_b25_20) rfl (fun hc1 => ?_) (fun hc1 => ?_)
  · replace h := jw_pos hc1 h
    refine xo_8 ?_
    replace h := jw_some h
    exact xo_70 (by decide) h
  · replace h := jw_neg hc1 h
    refine xo_0 rfl ?_
    refine xo_8 ?_
    refine xo_64 (t := jm_b25_20) rfl (fun hc2 => ?_) (fun hc2 => ?_)
    · replace h := jw_pos hc2 h
      refine xo_8 ?_
      replace h := jw_some h
      exact xo_70 (by decide) h
    · replace h := jw_neg hc2 h
      refine xo_2 rfl ?_
      refine xc_32 (i := 900) (v := (σ.1 900)) hS ly14 rfl ⟨Nat.le_of_ble_eq_true rfl, Nat.le_of_ble_eq_true rfl⟩ rfl ?_
      refine xo_0 rfl ?_
      refine xo_24 ?_
      refine xo_8 ?_
      refine xo_20 ?_
      refine xo_56 (t := jm_b25_22) rfl (fun hc3 => ?_) (fun hc3 => ?_)
      · replace h := jw_pos hc3 h
        refine xo_2 rfl ?_
        refine xo_2 rfl ?_
        refine xc_33 (i := 897) (q := 42) hS ly14 rfl (xc_P hS (by decide)) ?_
        refine xo_0 rfl ?_
        by_cases hc4 : x1 = 0
        · replace h := jw_pos hc4 h
          refine xc_44 (j := 2688) (q := 43) hS ly42 (by decide) (by rw [hc4]; decide) (by rw [hc4]; decide) (xc_P hS (by decide)) ?_
          refine xo_49 (st' := []) rfl rfl (xc_ly hS ly12) rfl (Nat.le_of_ble_eq_true rfl) ?_
          refine t_X8_copy_at12_43 hS ?_
          refine jw_mono (jw_bind h) (fun q5 h => ?_)
          show jx_Ex _ _ _ _ [] (jh S q5.2) _
          refine xo_2 rfl ?_
          refine xo_8 ?_
          refine xc_34 (i := 899) hS ly14 rfl ⟨Nat.le_of_ble_eq_true rfl, Nat.le_of_ble_eq_true rfl⟩ ?_
          refine xo_8 ?_
          replace h := jw_some h
          exact xo_70 (by decide) h
        replace h := jw_neg hc4 h
        by_cases hc6 : x1 = 1
        · replace h := jw_pos hc6 h
          refine xc_44 (j := 2689) (q := 45) hS ly42 (by decide) (by rw [hc6]; decide) (by rw [hc6]; decide) (xc_P hS (by decide)) ?_
          refine xo_49 (st' := []) rfl rfl (xc_ly hS ly12) rfl (Nat.le_of_ble_eq_true rfl) ?_
          refine t_X8_copy_at12_45 hS ?_
          refine jw_mono (jw_bind h) (fun q7 h => ?_)
          show jx_Ex _ _ _ _ [] (jh S q7.2) _
          refine xo_2 rfl ?_
          refine xo_8 ?_
          refine xc_34 (i := 899) hS ly14 rfl ⟨Nat.le_of_ble_eq_true rfl, Nat.le_of_ble_eq_true rfl⟩ ?_
          refine xo_8 ?_
          replace h := jw_some h
          exact xo_70 (by decide) h
        replace h := jw_neg hc6 h
        exact jw_none h
      · replace h := jw_neg hc3 h
        refine xo_8 ?_
        replace h := jw_some h
        exact xo_70 (by decide) h
/-- OfDifferentMinds.again, at ['x', 'int'] -/
def f_X10_again (x1 : Int32) (σ : jT) : Option (Int32 × jT) :=
  (f_X2_bringBack_12 x1 σ).bind fun q1 =>
  if ¬ q1.1 = 0 then
    (f_X10_limitSpent q1.2).bind fun q3 =>
    some (1, q3.2)
  else
    some (0, q1.2)
theorem t_X10_again {S : jS} (hS : jCok S) {d : Nat} {Q : Option Value → jx_H → Prop} {x1 : Int32} {σ : jT} (h : jw (f_X10_again x1 σ) (fun q => Q (some (.int q.1)) (jh S q.2))) : jx_Sp (d + 3) 195 [.ref 0, .int x1] (jh S σ) Q := by
  refine ⟨jm_i195, jm_at195, rfl, rfl, ?_⟩
  show jx_Ex _ jm_l195 jm_b195_0 [.ref 0, .int x1] [] _ _
  unfold f_X10_again at h
  refine xo_2 rfl ?_
  refine xc_33 (i := 4) (q := 14) hS ly0 rfl (xc_P hS (by decide)) ?_
  refine xo_0 rfl ?_
  refine xo_2 rfl ?_
  refine xc_33 (i := 3) (q := 12) hS ly0 rfl (xc_P hS (by decide)) ?_
  refine xo_49 (st' := []) rfl rfl (xc_ly hS ly14) rfl (Nat.le_of_ble_eq_true rfl) ?_
  refine t_X2_bringBack_12 hS ?_
  refine jw_mono (jw_bind h) (fun q1 h => ?_)
  show jx_Ex _ _ _ _ [.int q1.1] (jh S q1.2) _
  refine xo_56 (t := jm_b195_17) rfl (fun hc2 => ?_) (fun hc2 => ?_)
  · replace h := jw_pos hc2 h
    refine xo_2 rfl ?_
    refine xo_49 (st' := []) rfl rfl (xc_ly hS ly0) rfl (Nat.le_of_ble_eq_true rfl) ?_
    refine t_X10_limitSpent hS ?_
    refine jw_mono (jw_bind h) (fun q3 h => ?_)
    show jx_Ex _ _ _ _ [] (jh S q3.2) _
    refine xo_8 ?_
    replace h := jw_some h
    exact xo_70 (by decide) h
  · replace h := jw_neg hc2 h
    refine xo_8 ?_
    replace h := jw_some h
    exact xo_70 (by decide) h
/-- OfDifferentMinds.convincedOnes, at ['x'] -/
def f_X10_convincedOnes_b33 (k4 : Int32 → Int32 → jT → Option (Int32 × jT)) (x1 : Int32) (x2 : Int32) (σ : jT) : Option (Int32 × jT) :=
  k4 x1 (x2 + 1) σ
def f_X10_convincedOnes_b4 : Nat → Int32 → Int32 → jT → Option (Int32 × jT)
  | 0, _, _, _ => none
  | n + 1, x1, x2, σ =>
    (f_X3_riderCount σ).bind fun q1 =>
    if q1.1 ≤ x2 then
      some (x1, q1.2)
    else
      (f_X8_convincerOf x2 q1.2).bind fun q3 =>
      if q3.1 = (-1) then
        f_X10_convincedOnes_b33 (f_X10_convincedOnes_b4 n) x1 x2 q3.2
      else
        f_X10_convincedOnes_b33 (f_X10_convincedOnes_b4 n) (x1 ||| (1 <<< (x2 &&& 31))) x2 q3.2
def f_X10_convincedOnes (σ : jT) : Option (Int32 × jT) :=
  f_X10_convincedOnes_b4 1000 0 0 σ
theorem t_X10_convincedOnes_b33 {S : jS} (hS : jCok S) {d : Nat} {Q : Option Value → jx_H → Prop} {k4 : Int32 → Int32 → jT → Option (Int32 × jT)} (hk4 : ∀ {x1 : Int32} {x2 : Int32} {σ : jT}, jw (k4 x1 x2 σ) (fun q => Q (some (.int q.1)) (jh S q.2)) → jx_Ex (d + 2) jm_l197 jm_b197_4 [.ref 0, .int x1, .int x2] [] (jh S σ) Q) {x1 : Int32} {x2 : Int32} {σ : jT} (h : jw (f_X10_convincedOnes_b33 k4 x1 x2 σ) (fun q => Q (some (.int q.1)) (jh S q.2))) : jx_Ex (d + 2) jm_l197 jm_b197_33 [.ref 0, .int x1, .int x2] [] (jh S σ) Q := by
  unfold f_X10_convincedOnes_b33 at h
  refine xo_13 (ls' := [.ref 0, .int x1, .int (x2 + 1)]) rfl rfl ?_
  refine xo_54 (t := jm_b197_4) rfl ?_
  exact hk4 h
theorem t_X10_convincedOnes_b4 {S : jS} (hS : jCok S) {d : Nat} {Q : Option Value → jx_H → Prop} : ∀ (n : Nat) {x1 : Int32} {x2 : Int32} {σ : jT}, jw (f_X10_convincedOnes_b4 n x1 x2 σ) (fun q => Q (some (.int q.1)) (jh S q.2)) → jx_Ex (d + 2) jm_l197 jm_b197_4 [.ref 0, .int x1, .int x2] [] (jh S σ) Q := by
  intro n
  induction n with
  | zero => intro x1 x2 σ h; exact jw_none h
  | succ n ih =>
    intro x1 x2 σ h
    rw [f_X10_convincedOnes_b4] at h
    refine xo_0 rfl ?_
    refine xo_2 rfl ?_
    refine xc_33 (i := 1) (q := 3) hS ly0 rfl (xc_P hS (by decide)) ?_
    refine xo_49 (st' := [.int x2]) rfl rfl (xc_ly hS ly3) rfl (Nat.le_of_ble_eq_true rfl) ?_
    refine t_X3_riderCount hS ?_
    refine jw_mono (jw_bind h) (fun q1 h => ?_)
    show jx_Ex _ _ _ _ [.int q1.1, .int x2] (jh S q1.2) _
    refine xo_64 (t := jm_b197_39) rfl (fun hc2 => ?_) (fun hc2 => ?_)
    · replace h := jw_pos hc2 h
      refine xo_0 rfl ?_
      replace h := jw_some h
      exact xo_69 h
    · replace h := jw_neg hc2 h
      refine xo_2 rfl ?_
      refine xc_33 (i := 3) (q := 12) hS ly0 rfl (xc_P hS (by decide)) ?_
      refine xo_0 rfl ?_
      refine xo_49 (st' := []) rfl rfl (xc_ly hS ly12) rfl (Nat.le_of_ble_eq_true rfl) ?_
      refine t_X8_convincerOf hS ?_
      refine jw_mono (jw_bind h) (fun q3 h => ?_)
      show jx_Ex _ _ _ _ [.int q3.1] (jh S q3.2) _
      refine xo_8 ?_
      refine xo_61 (t := jm_b197_33) rfl (fun hc4 => ?_) (fun hc4 => ?_)
      · replace h := jw_pos hc4 h
        exact t_X10_convincedOnes_b33 hS ih h
      · replace h := jw_neg hc4 h
        refine xo_0 rfl ?_
        refine xo_8 ?_
        refine xo_0 rfl ?_
        refine xo_23 ?_
        refine xo_21 ?_
        refine xo_4 (ls' := [.ref 0, .int (x1 ||| (1 <<< (x2 &&& 31))), .int x2]) rfl ?_
        exact t_X10_convincedOnes_b33 hS ih h
theorem t_X10_convincedOnes {S : jS} (hS : jCok S) {d : Nat} {Q : Option Value → jx_H → Prop} {σ : jT} (h : jw (f_X10_convincedOnes σ) (fun q => Q (some (.int q.1)) (jh S q.2))) : jx_Sp (d + 2) 197 [.ref 0] (jh S σ) Q := by
  refine ⟨jm_i197, jm_at197, rfl, rfl, ?_⟩
  show jx_Ex _ jm_l197 jm_b197_0 [.ref 0, .retAddr 0, .retAddr 0] [] _ _
  unfold f_X10_convincedOnes at h
  refine xo_8 ?_
  refine xo_4 (ls' := [.ref 0, .int 0, .retAddr 0]) rfl ?_
  refine xo_8 ?_
  refine xo_4 (ls' := [.ref 0, .int 0, .int 0]) rfl ?_
  exact t_X10_convincedOnes_b4 hS 1000 h
/-- Row.size, at ['x.told'] -/
def f_X6_size (σ : jT) : Option (Int32 × jT) :=
  some ((σ.1 3009), σ)
theorem t_X6_size {S : jS} (hS : jCok S) {d : Nat} {Q : Option Value → jx_H → Prop} {σ : jT} (h : jw (f_X6_size σ) (fun q => Q (some (.int q.1)) (jh S q.2))) : jx_Sp (d) 73 [.ref 47] (jh S σ) Q := by
  refine ⟨jm_i73, jm_at73, rfl, rfl, ?_⟩
  show jx_Ex _ jm_l73 jm_b73_0 [.ref 47] [] _ _
  unfold f_X6_size at h
  refine xo_2 rfl ?_
  refine xc_32 (i := 3009) (v := (σ.1 3009)) hS ly47 rfl ⟨Nat.le_of_ble_eq_true rfl, Nat.le_of_ble_eq_true rfl⟩ rfl ?_
  replace h := jw_some h
  exact xo_69 h
