/-! ===== methods as functions ===== -/
/-- OfDifferentMinds.lead, at ['x', 'int', 'int'] -/
def f_X10_lead (x1 : Int32) (x2 : Int32) (σ : jT) : Option (Int32 × jT) :=
  (f_X2_note_12 σ).bind fun q1 =>
  (f_X10_goLeading x1 x2 q1.2).bind fun q2 =>
  (f_X10_noted q2.1 q2.2).bind fun q3 =>
  some (q3.1, q3.2)
theorem t_X10_lead {S : jS} (hS : jCok S) {d : Nat} {Q : Option Value → jx_H → Prop} {x1 : Int32} {x2 : Int32} {σ : jT} (h : jw (f_X10_lead x1 x2 σ) (fun q => Q (some (.int q.1)) (jh S q.2))) : jx_Sp (d + 3) 147 [.ref 0, .int x1, .int x2] (jh S σ) Q := by
  refine ⟨jm_i147, jm_at147, rfl, rfl, ?_⟩
  show jx_Ex _ jm_l147 jm_b147_0 [.ref 0, .int x1, .int x2] [] _ _
  unfold f_X10_lead at h
  refine xo_2 rfl ?_
  refine xc_33 (i := 4) (q := 14) hS ly0 rfl (xc_P hS (by decide)) ?_
  refine xo_2 rfl ?_
  refine xc_33 (i := 3) (q := 12) hS ly0 rfl (xc_P hS (by decide)) ?_
  refine xo_49 (st' := []) rfl rfl (xc_ly hS ly14) rfl (Nat.le_of_ble_eq_true rfl) ?_
  refine t_X2_note_12 hS ?_
  refine jw_mono (jw_bind h) (fun q1 h => ?_)
  show jx_Ex _ _ _ _ [] (jh S q1.2) _
  refine xo_2 rfl ?_
  refine xo_2 rfl ?_
  refine xo_0 rfl ?_
  refine xo_0 rfl ?_
  refine xo_49 (st' := [.ref 0]) rfl rfl (xc_ly hS ly0) rfl (Nat.le_of_ble_eq_true rfl) ?_
  refine t_X10_goLeading hS ?_
  refine jw_mono (jw_bind h) (fun q2 h => ?_)
  show jx_Ex _ _ _ _ [.int q2.1, .ref 0] (jh S q2.2) _
  refine xo_49 (st' := []) rfl rfl (xc_ly hS ly0) rfl (Nat.le_of_ble_eq_true rfl) ?_
  refine t_X10_noted hS ?_
  refine jw_mono (jw_bind h) (fun q3 h => ?_)
  show jx_Ex _ _ _ _ [.int q3.1] (jh S q3.2) _
  replace h := jw_some h
  exact xo_69 h
/-- Land.isInn, at ['x.land', 'int'] -/
def f_X3_isInn (x1 : Int32) (σ : jT) : Option (Int32 × jT) :=
  (f_X3_hasPlace x1 σ).bind fun q1 =>
  if q1.1 = 0 then
    some (0, q1.2)
  else
    if (((q1.2.1 196) >>> (x1 &&& 31)) &&& 1) = 0 then
      some (0, q1.2)
    else
      some (1, q1.2)
theorem t_X3_isInn {S : jS} (hS : jCok S) {d : Nat} {Q : Option Value → jx_H → Prop} {x1 : Int32} {σ : jT} (h : jw (f_X3_isInn x1 σ) (fun q => Q (some (.int q.1)) (jh S q.2))) : jx_Sp (d + 1) 34 [.ref 3, .int x1] (jh S σ) Q := by
  refine ⟨jm_i34, jm_at34, rfl, rfl, ?_⟩
  show jx_Ex _ jm_l34 jm_b34_0 [.ref 3, .int x1] [] _ _
  unfold f_X3_isInn at h
  refine xo_2 rfl ?_
  refine xo_0 rfl ?_
  refine xo_49 (st' := []) rfl rfl (xc_ly hS ly3) rfl (Nat.le_of_ble_eq_true rfl) ?_
  refine t_X3_hasPlace hS ?_
  refine jw_mono (jw_bind h) (fun q1 h => ?_)
  show jx_Ex _ _ _ _ [.int q1.1] (jh S q1.2) _
  refine xo_55 (t := jm_b34_23) rfl (fun hc2 => ?_) (fun hc2 => ?_)
  · replace h := jw_pos hc2 h
    refine xo_8 ?_
    replace h := jw_some h
    exact xo_70 (by decide) h
  · replace h := jw_neg hc2 h
    refine xo_2 rfl ?_
    refine xc_32 (i := 196) (v := (q1.2.1 196)) hS ly3 rfl ⟨Nat.le_of_ble_eq_true rfl, Nat.le_of_ble_eq_true rfl⟩ rfl ?_
    refine xo_0 rfl ?_
    refine xo_24 ?_
    refine xo_8 ?_
    refine xo_20 ?_
    refine xo_55 (t := jm_b34_23) rfl (fun hc3 => ?_) (fun hc3 => ?_)
    · replace h := jw_pos hc3 h
      refine xo_8 ?_
      replace h := jw_some h
      exact xo_70 (by decide) h
    · replace h := jw_neg hc3 h
      refine xo_8 ?_
      refine xo_54 (t := jm_b34_24) rfl ?_
      replace h := jw_some h
      exact xo_70 (by decide) h
/-- OfDifferentMinds.sleep, at ['x', 'int'] -/
def f_X10_sleep (x1 : Int32) (σ : jT) : Option (Int32 × jT) :=
  (f_X3_hasRider x1 σ).bind fun q1 =>
  if ¬ q1.1 = 0 then
    (f_X8_isUp x1 q1.2).bind fun q3 =>
    if ¬ q3.1 = 0 then
      some ((-2), q3.2)
    else
      (f_X8_placeOf x1 q3.2).bind fun q5 =>
      (f_X3_isInn q5.1 q5.2).bind fun q6 =>
      if ¬ q6.1 = 0 then
        (f_X8_spentOf x1 q6.2).bind fun q8 =>
        (f_X8_setSpent x1 0 q8.2).bind fun q9 =>
        (f_X8_setConvincer x1 (-1) q9.2).bind fun q10 =>
        some (q8.1, q10.2)
      else
        some ((-2), q6.2)
  else
    some ((-1), q1.2)
theorem t_X10_sleep {S : jS} (hS : jCok S) {d : Nat} {Q : Option Value → jx_H → Prop} {x1 : Int32} {σ : jT} (h : jw (f_X10_sleep x1 σ) (fun q => Q (some (.int q.1)) (jh S q.2))) : jx_Sp (d + 2) 157 [.ref 0, .int x1] (jh S σ) Q := by
  refine ⟨jm_i157, jm_at157, rfl, rfl, ?_⟩
  show jx_Ex _ jm_l157 jm_b157_0 [.ref 0, .int x1, .retAddr 0] [] _ _
  unfold f_X10_sleep at h
  refine xo_2 rfl ?_
  refine xc_33 (i := 1) (q := 3) hS ly0 rfl (xc_P hS (by decide)) ?_
  refine xo_0 rfl ?_
  refine xo_49 (st' := []) rfl rfl (xc_ly hS ly3) rfl (Nat.le_of_ble_eq_true rfl) ?_
  refine t_X3_hasRider hS ?_
  refine jw_mono (jw_bind h) (fun q1 h => ?_)
  show jx_Ex _ _ _ _ [.int q1.1] (jh S q1.2) _
  refine xo_56 (t := jm_b157_13) rfl (fun hc2 => ?_) (fun hc2 => ?_)
  · replace h := jw_pos hc2 h
    refine xo_2 rfl ?_
    refine xc_33 (i := 3) (q := 12) hS ly0 rfl (xc_P hS (by decide)) ?_
    refine xo_0 rfl ?_
    refine xo_49 (st' := []) rfl rfl (xc_ly hS ly12) rfl (Nat.le_of_ble_eq_true rfl) ?_
    refine t_X8_isUp hS ?_
    refine jw_mono (jw_bind h) (fun q3 h => ?_)
    show jx_Ex _ _ _ _ [.int q3.1] (jh S q3.2) _
    refine xo_56 (t := jm_b157_42) rfl (fun hc4 => ?_) (fun hc4 => ?_)
    · replace h := jw_pos hc4 h
      refine xo_9 ?_
      replace h := jw_some h
      exact xo_69 h
    · replace h := jw_neg hc4 h
      refine xo_2 rfl ?_
      refine xc_33 (i := 1) (q := 3) hS ly0 rfl (xc_P hS (by decide)) ?_
      refine xo_2 rfl ?_
      refine xc_33 (i := 3) (q := 12) hS ly0 rfl (xc_P hS (by decide)) ?_
      refine xo_0 rfl ?_
      refine xo_49 (st' := [.ref 3]) rfl rfl (xc_ly hS ly12) rfl (Nat.le_of_ble_eq_true rfl) ?_
      refine t_X8_placeOf hS ?_
      refine jw_mono (jw_bind h) (fun q5 h => ?_)
      show jx_Ex _ _ _ _ [.int q5.1, .ref 3] (jh S q5.2) _
      refine xo_49 (st' := []) rfl rfl (xc_ly hS ly3) rfl (Nat.le_of_ble_eq_true rfl) ?_
      refine t_X3_isInn hS ?_
      refine jw_mono (jw_bind h) (fun q6 h => ?_)
      show jx_Ex _ _ _ _ [.int q6.1] (jh S q6.2) _
      refine xo_56 (t := jm_b157_45) rfl (fun hc7 => ?_) (fun hc7 => ?_)
      · replace h := jw_pos hc7 h
        refine xo_2 rfl ?_
        refine xc_33 (i := 3) (q := 12) hS ly0 rfl (xc_P hS (by decide)) ?_
        refine xo_0 rfl ?_
        refine xo_49 (st' := []) rfl rfl (xc_ly hS ly12) rfl (Nat.le_of_ble_eq_true rfl) ?_
        refine t_X8_spentOf hS ?_
        refine jw_mono (jw_bind h) (fun q8 h => ?_)
        show jx_Ex _ _ _ _ [.int q8.1] (jh S q8.2) _
        refine xo_4 (ls' := [.ref 0, .int x1, .int q8.1]) rfl ?_
        refine xo_2 rfl ?_
        refine xc_33 (i := 3) (q := 12) hS ly0 rfl (xc_P hS (by decide)) ?_
        refine xo_0 rfl ?_
        refine xo_8 ?_
        refine xo_49 (st' := []) rfl rfl (xc_ly hS ly12) rfl (Nat.le_of_ble_eq_true rfl) ?_
        refine t_X8_setSpent hS ?_
        refine jw_mono (jw_bind h) (fun q9 h => ?_)
        show jx_Ex _ _ _ _ [] (jh S q9.2) _
        refine xo_2 rfl ?_
        refine xc_33 (i := 3) (q := 12) hS ly0 rfl (xc_P hS (by decide)) ?_
        refine xo_0 rfl ?_
        refine xo_8 ?_
        refine xo_49 (st' := []) rfl rfl (xc_ly hS ly12) rfl (Nat.le_of_ble_eq_true rfl) ?_
        refine t_X8_setConvincer hS ?_
        refine jw_mono (jw_bind h) (fun q10 h => ?_)
        show jx_Ex _ _ _ _ [] (jh S q10.2) _
        refine xo_0 rfl ?_
        replace h := jw_some h
        exact xo_69 h
      · replace h := jw_neg hc7 h
        refine xo_9 ?_
        replace h := jw_some h
        exact xo_69 h
  · replace h := jw_neg hc2 h
    refine xo_8 ?_
    replace h := jw_some h
    exact xo_69 h
/-- OfDifferentMinds.rest, at ['x', 'int'] -/
def f_X10_rest (x1 : Int32) (σ : jT) : Option (Int32 × jT) :=
  (f_X2_note_12 σ).bind fun q1 =>
  (f_X10_sleep x1 q1.2).bind fun q2 =>
  (f_X10_noted q2.1 q2.2).bind fun q3 =>
  some (q3.1, q3.2)
theorem t_X10_rest {S : jS} (hS : jCok S) {d : Nat} {Q : Option Value → jx_H → Prop} {x1 : Int32} {σ : jT} (h : jw (f_X10_rest x1 σ) (fun q => Q (some (.int q.1)) (jh S q.2))) : jx_Sp (d + 3) 148 [.ref 0, .int x1] (jh S σ) Q := by
  refine ⟨jm_i148, jm_at148, rfl, rfl, ?_⟩
  show jx_Ex _ jm_l148 jm_b148_0 [.ref 0, .int x1] [] _ _
  unfold f_X10_rest at h
  refine xo_2 rfl ?_
  refine xc_33 (i := 4) (q := 14) hS ly0 rfl (xc_P hS (by decide)) ?_
  refine xo_2 rfl ?_
  refine xc_33 (i := 3) (q := 12) hS ly0 rfl (xc_P hS (by decide)) ?_
  refine xo_49 (st' := []) rfl rfl (xc_ly hS ly14) rfl (Nat.le_of_ble_eq_true rfl) ?_
  refine t_X2_note_12 hS ?_
  refine jw_mono (jw_bind h) (fun q1 h => ?_)
  show jx_Ex _ _ _ _ [] (jh S q1.2) _
  refine xo_2 rfl ?_
  refine xo_2 rfl ?_
  refine xo_0 rfl ?_
  refine xo_49 (st' := [.ref 0]) rfl rfl (xc_ly hS ly0) rfl (Nat.le_of_ble_eq_true rfl) ?_
  refine t_X10_sleep hS ?_
  refine jw_mono (jw_bind h) (fun q2 h => ?_)
  show jx_Ex _ _ _ _ [.int q2.1, .ref 0] (jh S q2.2) _
  refine xo_49 (st' := []) rfl rfl (xc_ly hS ly0) rfl (Nat.le_of_ble_eq_true rfl) ?_
  refine t_X10_noted hS ?_
  refine jw_mono (jw_bind h) (fun q3 h => ?_)
  show jx_Ex _ _ _ _ [.int q3.1] (jh S q3.2) _
  replace h := jw_some h
  exact xo_69 h
/-- Standing.changeMaps, at ['x.now', 'int', 'int'] -/
def f_X8_changeMaps (x1 : Int32) (x2 : Int32) (σ : jT) : Option (Int32 × jT) :=
  (f_X8_mapOf x1 σ).bind fun q1 =>
  (f_X8_mapOf x2 q1.2).bind fun q2 =>
  (f_X8_set 18 x1 q2.1 q2.2).bind fun q3 =>
  (f_X8_set 18 x2 q1.1 q3.2).bind fun q4 =>
  some (0, q4.2)
theorem t_X8_changeMaps {S : jS} (hS : jCok S) {d : Nat} {Q : Option Value → jx_H → Prop} {x1 : Int32} {x2 : Int32} {σ : jT} (h : jw (f_X8_changeMaps x1 x2 σ) (fun q => Q none (jh S q.2))) : jx_Sp (d + 2) 102 [.ref 12, .int x1, .int x2] (jh S σ) Q := by
  refine ⟨jm_i102, jm_at102, rfl, rfl, ?_⟩
  show jx_Ex _ jm_l102 jm_b102_0 [.ref 12, .int x1, .int x2, .retAddr 0] [] _ _
  unfold f_X8_changeMaps at h
  refine xo_2 rfl ?_
  refine xo_0 rfl ?_
  refine xo_49 (st' := []) rfl rfl (xc_ly hS ly12) rfl (Nat.le_of_ble_eq_true rfl) ?_
  refine t_X8_mapOf hS ?_
  refine jw_mono (jw_bind h) (fun q1 h => ?_)
  show jx_Ex _ _ _ _ [.int q1.1] (jh S q1.2) _
  refine xo_4 (ls' := [.ref 12, .int x1, .int x2, .int q1.1]) rfl ?_
  refine xo_2 rfl ?_
  refine xo_9 ?_
  refine xo_0 rfl ?_
  refine xo_2 rfl ?_
  refine xo_0 rfl ?_
  refine xo_49 (st' := [.int x1, .int 18, .ref 12]) rfl rfl (xc_ly hS ly12) rfl (Nat.le_of_ble_eq_true rfl) ?_
  refine t_X8_mapOf hS ?_
  refine jw_mono (jw_bind h) (fun q2 h => ?_)
  show jx_Ex _ _ _ _ [.int q2.1, .int x1, .int 18, .ref 12] (jh S q2.2) _
  refine xo_49 (st' := []) rfl rfl (xc_ly hS ly12) rfl (Nat.le_of_ble_eq_true rfl) ?_
  refine t_X8_set hS ?_
  refine jw_mono (jw_bind h) (fun q3 h => ?_)
  show jx_Ex _ _ _ _ [] (jh S q3.2) _
  refine xo_2 rfl ?_
  refine xo_9 ?_
  refine xo_0 rfl ?_
  refine xo_0 rfl ?_
  refine xo_49 (st' := []) rfl rfl (xc_ly hS ly12) rfl (Nat.le_of_ble_eq_true rfl) ?_
  refine t_X8_set hS ?_
  refine jw_mono (jw_bind h) (fun q4 h => ?_)
  show jx_Ex _ _ _ _ [] (jh S q4.2) _
  replace h := jw_some h
  exact xo_71 h
/-- Standing.digit, at ['x.now', 'int', 'int'] -/
def f_X8_digit (x1 : Int32) (x2 : Int32) (σ : jT) : Option (Int32 × jT) :=
  if x2 < 0 then
    some (0, σ)
  else
    if 10 ≤ x2 then
      some (0, σ)
    else
      (f_X8_mapOf x1 σ).bind fun q3 =>
      some (((q3.1 >>> ((2 * x2) &&& 31)) &&& 3), q3.2)
theorem t_X8_digit {S : jS} (hS : jCok S) {d : Nat} {Q : Option Value → jx_H → Prop} {x1 : Int32} {x2 : Int32} {σ : jT} (h : jw (f_X8_digit x1 x2 σ) (fun q => Q (some (.int q.1)) (jh S q.2))) : jx_Sp (d + 2) 101 [.ref 12, .int x1, .int x2] (jh S σ) Q := by
  refine ⟨jm_i101, jm_at101, rfl, rfl, ?_⟩
  show jx_Ex _ jm_l101 jm_b101_0 [.ref 12, .int x1, .int x2] [] _ _
  unfold f_X8_digit at h
  refine xo_0 rfl ?_
  refine xo_57 (t := jm_b101_24) rfl (fun hc1 => ?_) (fun hc1 => ?_)
  · replace h := jw_pos hc1 h
    refine xo_8 ?_
    replace h := jw_some h
    exact xo_69 h
  · replace h := jw_neg hc1 h
    refine xo_0 rfl ?_
    refine xo_9 ?_
    refine xo_64 (t := jm_b101_24) rfl (fun hc2 => ?_) (fun hc2 => ?_)
    · replace h := jw_pos hc2 h
      refine xo_8 ?_
      replace h := jw_some h
      exact xo_69 h
    · replace h := jw_neg hc2 h
      refine xo_2 rfl ?_
      refine xo_0 rfl ?_
      refine xo_49 (st' := []) rfl rfl (xc_ly hS ly12) rfl (Nat.le_of_ble_eq_true rfl) ?_
      refine t_X8_mapOf hS ?_
      refine jw_mono (jw_bind h) (fun q3 h => ?_)
      show jx_Ex _ _ _ _ [.int q3.1] (jh S q3.2) _
      refine xo_8 ?_
      refine xo_0 rfl ?_
      refine xo_16 ?_
      refine xo_24 ?_
      refine xo_8 ?_
      refine xo_20 ?_
      refine xo_54 (t := jm_b101_25) rfl ?_
      replace h := jw_some h
      exact xo_69 h
/-- OfDifferentMinds.changeMaps, at ['x', 'int', 'int'] -/
def f_X10_changeMaps_b116 (k74 : Int32 → Int32 → Int32 → Int32 → jT → Option (Int32 × jT)) (x1 : Int32) (x2 : Int32) (x5 : Int32) (s0 : Int32) (s1 : Int32) (σ : jT) : Option (Int32 × jT) :=
  k74 x1 x2 (s1 + s0) (x5 + 1) σ
def f_X10_changeMaps_b74 : Nat → Int32 → Int32 → Int32 → Int32 → jT → Option (Int32 × jT)
  | 0, _, _, _, _, _ => none
  | n + 1, x1, x2, x4, x5, σ =>
    (f_X3_places σ).bind fun q1 =>
    if q1.1 ≤ x5 then
      (f_X8_changeMaps x1 x2 q1.2).bind fun q3 =>
      some (x4, q3.2)
    else
      (f_X8_digit x1 x5 q1.2).bind fun q4 =>
      (f_X8_digit x2 x5 q4.2).bind fun q5 =>
      if q4.1 = q5.1 then
        f_X10_changeMaps_b116 (f_X10_changeMaps_b74 n) x1 x2 x5 0 x4 q5.2
      else
        f_X10_changeMaps_b116 (f_X10_changeMaps_b74 n) x1 x2 x5 1 x4 q5.2
def f_X10_changeMaps (x1 : Int32) (x2 : Int32) (σ : jT) : Option (Int32 × jT) :=
  (f_X10_areTwo x1 x2 σ).bind fun q1 =>
  if ¬ q1.1 = 0 then
    (f_X8_placeOf x1 q1.2).bind fun q3 =>
    (f_X8_placeOf x2 q3.2).bind fun q4 =>
    if ¬ q4.1 = q3.1 then
      some ((-2), q4.2)
    else
      (f_X3_isInn q3.1 q4.2).bind fun q6 =>
      if q6.1 = 0 then
        some ((-2), q6.2)
      else
        (f_X8_isUp x1 q6.2).bind fun q8 =>
        if ¬ q8.1 = 0 then
          some ((-2), q8.2)
        else
          (f_X8_isUp x2 q8.2).bind fun q10 =>
          if q10.1 = 0 then
            f_X10_changeMaps_b74 1000 x1 x2 0 0 q10.2
          else
            some ((-2), q10.2)
  else
    some ((-1), q1.2)
theorem t_X10_changeMaps_b116 {S : jS} (hS : jCok S) {d : Nat} {Q : Option Value → jx_H → Prop} {k74 : Int32 → Int32 → Int32 → Int32 → jT → Option (Int32 × jT)} (hk74 : ∀ {x1 : Int32} {x2 : Int32} {x4 : Int32} {x5 : Int32} {w3 : Value} {σ : jT}, jw (k74 x1 x2 x4 x5 σ) (fun q => Q (some (.int q.1)) (jh S q.2)) → jx_Ex (d + 3) jm_l158 jm_b158_74 [.ref 0, .int x1, .int x2, w3, .int x4, .int x5] [] (jh S σ) Q) {x1 : Int32} {x2 : Int32} {x5 : Int32} {s0 : Int32} {s1 : Int32} {w3 : Value} {w4 : Value} {σ : jT} (h : jw (f_X10_changeMaps_b116 k74 x1 x2 x5 s0 s1 σ) (fun q => Q (some (.int q.1)) (jh S q.2))) : jx_Ex (d + 3) jm_l158 jm_b158_116 [.ref 0, .int x1, .int x2, w3, w4, .int x5] [.int s0, .int s1] (jh S σ) Q := by
  unfold f_X10_changeMaps_b116 at h
  refine xo_14 ?_
  refine xo_5 (ls' := [.ref 0, .int x1, .int x2, w3, .int (s1 + s0), .int x5]) rfl ?_
  refine xo_13 (ls' := [.ref 0, .int x1, .int x2, w3, .int (s1 + s0), .int (x5 + 1)]) rfl rfl ?_
  refine xo_54 (t := jm_b158_74) rfl ?_
  exact hk74 h
theorem t_X10_changeMaps_b74 {S : jS} (hS : jCok S) {d : Nat} {Q : Option Value → jx_H → Prop} : ∀ (n : Nat) {x1 : Int32} {x2 : Int32} {x4 : Int32} {x5 : Int32} {w3 : Value} {σ : jT}, jw (f_X10_changeMaps_b74 n x1 x2 x4 x5 σ) (fun q => Q (some (.int q.1)) (jh S q.2)) → jx_Ex (d + 3) jm_l158 jm_b158_74 [.ref 0, .int x1, .int x2, w3, .int x4, .int x5] [] (jh S σ) Q := by
  intro n
  induction n with
  | zero => intro x1 x2 x4 x5 w3 σ h; exact jw_none h
  | succ n ih =>
    intro x1 x2 x4 x5 w3 σ h
    rw [f_X10_changeMaps_b74] at h
    refine xo_1 rfl ?_
    refine xo_2 rfl ?_
    refine xc_33 (i := 1) (q := 3) hS ly0 rfl (xc_P hS (by decide)) ?_
    refine xo_49 (st' := [.int x5]) rfl rfl (xc_ly hS ly3) rfl (Nat.le_of_ble_eq_true rfl) ?_
    refine t_X3_places hS ?_
    refine jw_mono (jw_bind h) (fun q1 h => ?_)
    show jx_Ex _ _ _ _ [.int q1.1, .int x5] (jh S q1.2) _
    refine xo_64 (t := jm_b158_125) rfl (fun hc2 => ?_) (fun hc2 => ?_)
    · replace h := jw_pos hc2 h
      refine xo_2 rfl ?_
      refine xc_33 (i := 3) (q := 12) hS ly0 rfl (xc_P hS (by decide)) ?_
      refine xo_0 rfl ?_
      refine xo_0 rfl ?_
      refine xo_49 (st' := []) rfl rfl (xc_ly hS ly12) rfl (Nat.le_of_ble_eq_true rfl) ?_
      refine t_X8_changeMaps hS ?_
      refine jw_mono (jw_bind h) (fun q3 h => ?_)
      show jx_Ex _ _ _ _ [] (jh S q3.2) _
      refine xo_1 rfl ?_
      replace h := jw_some h
      exact xo_69 h
    · replace h := jw_neg hc2 h
      refine xo_1 rfl ?_
      refine xo_2 rfl ?_
      refine xc_33 (i := 3) (q := 12) hS ly0 rfl (xc_P hS (by decide)) ?_
      refine xo_0 rfl ?_
      refine xo_1 rfl ?_
      refine xo_49 (st' := [.int x4]) rfl rfl (xc_ly hS ly12) rfl (Nat.le_of_ble_eq_true rfl) ?_
      refine t_X8_digit hS ?_
      refine jw_mono (jw_bind h) (fun q4 h => ?_)
      show jx_Ex _ _ _ _ [.int q4.1, .int x4] (jh S q4.2) _
      refine xo_2 rfl ?_
      refine xc_33 (i := 3) (q := 12) hS ly0 rfl (xc_P hS (by decide)) ?_
      refine xo_0 rfl ?_
      refine xo_1 rfl ?_
      refine xo_49 (st' := [.int q4.1, .int x4]) rfl rfl (xc_ly hS ly12) rfl (Nat.le_of_ble_eq_true rfl) ?_
      refine t_X8_digit hS ?_
      refine jw_mono (jw_bind h) (fun q5 h => ?_)
      show jx_Ex _ _ _ _ [.int q5.1, .int q4.1, .int x4] (jh S q5.2) _
      refine xo_61 (t := jm_b158_115) rfl (fun hc6 => ?_) (fun hc6 => ?_)
      · replace h := jw_pos hc6 h
        refine xo_8 ?_
        exact t_X10_changeMaps_b116 hS ih h
      · replace h := jw_neg hc6 h
        refine xo_8 ?_
        refine xo_54 (t := jm_b158_116) rfl ?_
        exact t_X10_changeMaps_b116 hS ih h
theorem t_X10_changeMaps {S : jS} (hS : jCok S) {d : Nat} {Q : Option Value → jx_H → Prop} {x1 : Int32} {x2 : Int32} {σ : jT} (h : jw (f_X10_changeMaps x1 x2 σ) (fun q => Q (some (.int q.1)) (jh S q.2))) : jx_Sp (d + 3) 158 [.ref 0, .int x1, .int x2] (jh S σ) Q := by
  refine ⟨jm_i158, jm_at158, rfl, rfl, ?_⟩
  show jx_Ex _ jm_l158 jm_b158_0 [.ref 0, .int x1, .int x2, .retAddr 0, .retAddr 0, .retAddr 0] [] _ _
  unfold f_X10_changeMaps at h
  refine xo_2 rfl ?_
  refine xo_0 rfl ?_
  refine xo_0 rfl ?_
  refine xo_49 (st' := []) rfl rfl (xc_ly hS ly0) rfl (Nat.le_of_ble_eq_true rfl) ?_
  refine t_X10_areTwo hS ?_
  refine jw_mono (jw_bind h) (fun q1 h => ?_)
  show jx_Ex _ _ _ _ [.int q1.1] (jh S q1.2) _
  refine xo_56 (t := jm_b158_11) rfl (fun hc2 => ?_) (fun hc2 => ?_)
  · replace h := jw_pos hc2 h
    refine xo_2 rfl ?_
    refine xc_33 (i := 3) (q := 12) hS ly0 rfl (xc_P hS (by decide)) ?_
    refine xo_0 rfl ?_
    refine xo_49 (st' := []) rfl rfl (xc_ly hS ly12) rfl (Nat.le_of_ble_eq_true rfl) ?_
    refine t_X8_placeOf hS ?_
    refine jw_mono (jw_bind h) (fun q3 h => ?_)
    show jx_Ex _ _ _ _ [.int q3.1] (jh S q3.2) _
    refine xo_4 (ls' := [.ref 0, .int x1, .int x2, .int q3.1, .retAddr 0, .retAddr 0]) rfl ?_
    refine xo_2 rfl ?_
    refine xc_33 (i := 3) (q := 12) hS ly0 rfl (xc_P hS (by decide)) ?_
    refine xo_0 rfl ?_
    refine xo_49 (st' := []) rfl rfl (xc_ly hS ly12) rfl (Nat.le_of_ble_eq_true rfl) ?_
    refine t_X8_placeOf hS ?_
    refine jw_mono (jw_bind h) (fun q4 h => ?_)
    show jx_Ex _ _ _ _ [.int q4.1] (jh S q4.2) _
    refine xo_0 rfl ?_
    refine xo_62 (t := jm_b158_65) rfl (fun hc5 => ?_) (fun hc5 => ?_)
    · replace h := jw_pos hc5 h
      refine xo_9 ?_
      replace h := jw_some h
      exact xo_69 h
    · replace h := jw_neg hc5 h
      refine xo_2 rfl ?_
      refine xc_33 (i := 1) (q := 3) hS ly0 rfl (xc_P hS (by decide)) ?_
      refine xo_0 rfl ?_
      refine xo_49 (st' := []) rfl rfl (xc_ly hS ly3) rfl (Nat.le_of_ble_eq_true rfl) ?_
      refine t_X3_isInn hS ?_
      refine jw_mono (jw_bind h) (fun q6 h => ?_)
      show jx_Ex _ _ _ _ [.int q6.1] (jh S q6.2) _
      refine xo_55 (t := jm_b158_65) rfl (fun hc7 => ?_) (fun hc7 => ?_)
      · replace h := jw_pos hc7 h
        refine xo_9 ?_
        replace h := jw_some h
        exact xo_69 h
      · replace h := jw_neg hc7 h
        refine xo_2 rfl ?_
        refine xc_33 (i := 3) (q := 12) hS ly0 rfl (xc_P hS (by decide)) ?_
        refine xo_0 rfl ?_
        refine xo_49 (st' := []) rfl rfl (xc_ly hS ly12) rfl (Nat.le_of_ble_eq_true rfl) ?_
        refine t_X8_isUp hS ?_
        refine jw_mono (jw_bind h) (fun q8 h => ?_)
        show jx_Ex _ _ _ _ [.int q8.1] (jh S q8.2) _
        refine xo_56 (t := jm_b158_65) rfl (fun hc9 => ?_) (fun hc9 => ?_)
        · replace h := jw_pos hc9 h
          refine xo_9 ?_
          replace h := jw_some h
          exact xo_69 h
        · replace h := jw_neg hc9 h
          refine xo_2 rfl ?_
          refine xc_33 (i := 3) (q := 12) hS ly0 rfl (xc_P hS (by decide)) ?_
          refine xo_0 rfl ?_
          refine xo_49 (st' := []) rfl rfl (xc_ly hS ly12) rfl (Nat.le_of_ble_eq_true rfl) ?_
          refine t_X8_isUp hS ?_
          refine jw_mono (jw_bind h) (fun q10 h => ?_)
          show jx_Ex _ _ _ _ [.int q10.1] (jh S q10.2) _
          refine xo_55 (t := jm_b158_68) rfl (fun hc11 => ?_) (fun hc11 => ?_)
          · replace h := jw_pos hc11 h
            refine xo_8 ?_
            refine xo_5 (ls' := [.ref 0, .int x1, .int x2, .int q3.1, .int 0, .retAddr 0]) rfl ?_
            refine xo_8 ?_
            refine xo_5 (ls' := [.ref 0, .int x1, .int x2, .int q3.1, .int 0, .int 0]) rfl ?_
            exact t_X10_changeMaps_b74 hS 1000 h
          · replace h := jw_neg hc11 h
            refine xo_9 ?_
            replace h := jw_some h
            exact xo_69 h
  · replace h := jw_neg hc2 h
    refine xo_8 ?_
    replace h := jw_some h
    exact xo_69 h
/-- OfDifferentMinds.deal, at ['x', 'int', 'int'] -/
def f_X10_deal (x1 : Int32) (x2 : Int32) (σ : jT) : Option (Int32 × jT) :=
  (f_X2_note_12 σ).bind fun q1 =>
  (f_X10_changeMaps x1 x2 q1.2).bind fun q2 =>
  (f_X10_noted q2.1 q2.2).bind fun q3 =>
  some (q3.1, q3.2)
theorem t_X10_deal {S : jS} (hS : jCok S) {d : Nat} {Q : Option Value → jx_H → Prop} {x1 : Int32} {x2 : Int32} {σ : jT} (h : jw (f_X10_deal x1 x2 σ) (fun q => Q (some (.int q.1)) (jh S q.2))) : jx_Sp (d + 4) 149 [.ref 0, .int x1, .int x2] (jh S σ) Q := by
  refine ⟨jm_i149, jm_at149, rfl, rfl, ?_⟩
  show jx_Ex _ jm_l149 jm_b149_0 [.ref 0, .int x1, .int x2] [] _ _
  unfold f_X10_deal at h
  refine xo_2 rfl ?_
  refine xc_33 (i := 4) (q := 14) hS ly0 rfl (xc_P hS (by decide)) ?_
  refine xo_2 rfl ?_
  refine xc_33 (i := 3) (q := 12) hS ly0 rfl (xc_P hS (by decide)) ?_
  refine xo_49 (st' := []) rfl rfl (xc_ly hS ly14) rfl (Nat.le_of_ble_eq_true rfl) ?_
  refine t_X2_note_12 hS ?_
  refine jw_mono (jw_bind h) (fun q1 h => ?_)
  show jx_Ex _ _ _ _ [] (jh S q1.2) _
  refine xo_2 rfl ?_
  refine xo_2 rfl ?_
  refine xo_0 rfl ?_
  refine xo_0 rfl ?_
  refine xo_49 (st' := [.ref 0]) rfl rfl (xc_ly hS ly0) rfl (Nat.le_of_ble_eq_true rfl) ?_
  refine t_X10_changeMaps hS ?_
  refine jw_mono (jw_bind h) (fun q2 h => ?_)
  show jx_Ex _ _ _ _ [.int q2.1, .ref 0] (jh S q2.2) _
  refine xo_49 (st' := []) rfl rfl (xc_ly hS ly0) rfl (Nat.le_of_ble_eq_true rfl) ?_
  refine t_X10_noted hS ?_
  refine jw_mono (jw_bind h) (fun q3 h => ?_)
  show jx_Ex _ _ _ _ [.int q3.1] (jh S q3.2) _
  replace h := jw_some h
  exact xo_69 h
/-- Grammar.takeAct, at ['x.text'] -/
def f_X1_takeAct_1 (σ : jT) : Option (Int32 × jT) :=
  (f_X9_peek σ).bind fun q1 =>
  if q1.1 = 100 then
    (f_X9_next q1.2).bind fun q3 =>
    some (1, q3.2)
  else
  if q1.1 = 108 then
    (f_X9_next q1.2).bind fun q5 =>
    (f_X9_takeOf 48 57 q5.2).bind fun q6 =>
    if q6.1 = 0 then
      some (0, q6.2)
    else
      (f_X9_takeOf 48 57 q6.2).bind fun q8 =>
      if q8.1 = 0 then
        some (0, q8.2)
      else
        some (1, q8.2)
  else
  if q1.1 = 109 then
    (f_X9_next q1.2).bind fun q11 =>
    (f_X9_takeOf 48 57 q11.2).bind fun q12 =>
    if q12.1 = 0 then
      some (0, q12.2)
    else
      (f_X9_takeOf 48 57 q12.2).bind fun q14 =>
      if q14.1 = 0 then
        some (0, q14.2)
      else
        some (1, q14.2)
  else
  if q1.1 = 114 then
    (f_X9_next q1.2).bind fun q17 =>
    (f_X9_number 2 q17.2).bind fun q18 =>
    if q18.1 = (-1) then
      some (0, q18.2)
    else
      some (1, q18.2)
  else
  if q1.1 = 119 then
    (f_X9_next q1.2).bind fun q21 =>
    (f_X9_takeOf 48 57 q21.2).bind fun q22 =>
    if q22.1 = 0 then
      some (0, q22.2)
    else
      (f_X9_takeOf 48 57 q22.2).bind fun q24 =>
      if q24.1 = 0 then
        some (0, q24.2)
      else
        some (1, q24.2)
  else
  if q1.1 = 120 then
    (f_X9_next q1.2).bind fun q27 =>
    (f_X9_takeOf 48 57 q27.2).bind fun q28 =>
    if q28.1 = 0 then
      some (0, q28.2)
    else
      (f_X9_takeOf 48 57 q28.2).bind fun q30 =>
      if q30.1 = 0 then
        some (0, q30.2)
      else
        some (1, q30.2)
  else
  if q1.1 = 122 then
    (f_X9_next q1.2).bind fun q33 =>
    (f_X9_takeOf 48 57 q33.2).bind fun q34 =>
    if q34.1 = 0 ∨ q34.1 = 1 then
    some (q34.1, q34.2)
    else none
  else
  some (0, q1.2)
theorem t_X1_takeAct_1 {S : jS} (hS : jCok S) {d : Nat} {Q : Option Value → jx_H → Prop} {σ : jT} (h : jw (f_X1_takeAct_1 σ) (fun q => Q (some (.int q.1)) (jh S q.2))) : jx_Sp (d + 2) 16 [.ref 1] (jh S σ) Q := by
  refine ⟨jm_i16, jm_at16, rfl, rfl, ?_⟩
  show jx_Ex _ jm_l16 jm_b16_0 [.ref 1] [] _ _
  unfold f_X1_takeAct_1 at h
  refine xo_2 rfl ?_
  refine xo_49 (st' := []) rfl rfl (xc_ly hS ly1) rfl (Nat.le_of_ble_eq_true rfl) ?_
  refine t_X9_peek hS ?_
  refine jw_mono (jw_bind h) (fun q1 h => ?_)
  show jx_Ex _ _ _ _ [.int q1.1] (jh S q1.2) _
  refine xo_67 ?_
  refine xo_swc (tb := jm_b16_145) rfl (fun hc2 => ?_) (fun hc2 => ?_)
  · replace h := jw_pos hc2 h
    refine xo_2 rfl ?_
    refine xo_49 (st' := []) rfl rfl (xc_ly hS ly1) rfl (Nat.le_of_ble_eq_true rfl) ?_
    refine t_X9_next hS ?_
    refine jw_mono (jw_bind h) (fun q3 h => ?_)
    show jx_Ex _ _ _ _ [.int q3.1] (jh S q3.2) _
    refine xo_31 ?_
    refine xo_8 ?_
    replace h := jw_some h
    exact xo_70 (by decide) h
  replace h := jw_neg hc2 h
  refine xo_sws (by decide) ?_
  refine xo_sws (by decide) ?_
  refine xo_sws (by decide) ?_
  refine xo_sws (by decide) ?_
  refine xo_sws (by decide) ?_
  refine xo_sws (by decide) ?_
  refine xo_sws (by decide) ?_
  refine xo_swc (tb := jm_b16_112) rfl (fun hc4 => ?_) (fun hc4 => ?_)
  · replace h := jw_pos hc4 h
    refine xo_2 rfl ?_
    refine xo_49 (st' := []) rfl rfl (xc_ly hS ly1) rfl (Nat.le_of_ble_eq_true rfl) ?_
    refine t_X9_next hS ?_
    refine jw_mono (jw_bind h) (fun q5 h => ?_)
    show jx_Ex _ _ _ _ [.int q5.1] (jh S q5.2) _
    refine xo_31 ?_
    refine xo_2 rfl ?_
    refine xo_9 ?_
    refine xo_9 ?_
    refine xo_49 (st' := []) rfl rfl (xc_ly hS ly1) rfl (Nat.le_of_ble_eq_true rfl) ?_
    refine t_X9_takeOf hS ?_
    refine jw_mono (jw_bind h) (fun q6 h => ?_)
    show jx_Ex _ _ _ _ [.int q6.1] (jh S q6.2) _
    refine xo_55 (t := jm_b16_143) rfl (fun hc7 => ?_) (fun hc7 => ?_)
    · replace h := jw_pos hc7 h
      refine xo_8 ?_
      replace h := jw_some h
      exact xo_70 (by decide) h
    · replace h := jw_neg hc7 h
      refine xo_2 rfl ?_
      refine xo_9 ?_
      refine xo_9 ?_
      refine xo_49 (st' := []) rfl rfl (xc_ly hS ly1) rfl (Nat.le_of_ble_eq_true rfl) ?_
      refine t_X9_takeOf hS ?_
      refine jw_mono (jw_bind h) (fun q8 h => ?_)
      show jx_Ex _ _ _ _ [.int q8.1] (jh S q8.2) _
      refine xo_55 (t := jm_b16_143) rfl (fun hc9 => ?_) (fun hc9 => ?_)
      · replace h := jw_pos hc9 h
        refine xo_8 ?_
        replace h := jw_some h
        exact xo_70 (by decide) h
      · replace h := jw_neg hc9 h
        refine xo_8 ?_
        refine xo_54 (t := jm_b16_144) rfl ?_
        replace h := jw_some h
        exact xo_70 (by decide) h
  replace h := jw_neg hc4 h
  refine xo_swc (tb := jm_b16_112) rfl (fun hc10 => ?_) (fun hc10 => ?_)
  · replace h := jw_pos hc10 h
    refine xo_2 rfl ?_
    refine xo_49 (st' := []) rfl rfl (xc_ly hS ly1) rfl (Nat.le_of_ble_eq_true rfl) ?_
    refine t_X9_next hS ?_
    refine jw_mono (jw_bind h) (fun q11 h => ?_)
    show jx_Ex _ _ _ _ [.int q11.1] (jh S q11.2) _
    refine xo_31 ?_
    refine xo_2 rfl ?_
    refine xo_9 ?_
    refine xo_9 ?_
    refine xo_49 (st' := []) rfl rfl (xc_ly hS ly1) rfl (Nat.le_of_ble_eq_true rfl) ?_
    refine t_X9_takeOf hS ?_
    refine jw_mono (jw_bind h) (fun q12 h => ?_)
    show jx_Ex _ _ _ _ [.int q12.1] (jh S q12.2) _
    refine xo_55 (t := jm_b16_143) rfl (fun hc13 => ?_) (fun hc13 => ?_)
    · replace h := jw_pos hc13 h
      refine xo_8 ?_
      replace h := jw_some h
      exact xo_70 (by decide) h
    · replace h := jw_neg hc13 h
      refine xo_2 rfl ?_
      refine xo_9 ?_
      refine xo_9 ?_
      refine xo_49 (st' := []) rfl rfl (xc_ly hS ly1) rfl (Nat.le_of_ble_eq_true rfl) ?_
      refine t_X9_takeOf hS ?_
      refine jw_mono (jw_bind h) (fun q14 h => ?_)
      show jx_Ex _ _ _ _ [.int q14.1] (jh S q14.2) _
      refine xo_55 (t := jm_b16_143) rfl (fun hc15 => ?_) (fun hc15 => ?_)
      · replace h := jw_pos hc15 h
        refine xo_8 ?_
        replace h := jw_some h
        exact xo_70 (by decide) h
      · replace h := jw_neg hc15 h
        refine xo_8 ?_
        refine xo_54 (t := jm_b16_144) rfl ?_
        replace h := jw_some h
        exact xo_70 (by decide) h
  replace h := jw_neg hc10 h
  refine xo_sws (by decide) ?_
  refine xo_sws (by decide) ?_
  refine xo_sws (by decide) ?_
  refine xo_sws (by decide) ?_
  refine xo_swc (tb := jm_b16_166) rfl (fun hc16 => ?_) (fun hc16 => ?_)
  · replace h := jw_pos hc16 h
    refine xo_2 rfl ?_
    refine xo_49 (st' := []) rfl rfl (xc_ly hS ly1) rfl (Nat.le_of_ble_eq_true rfl) ?_
    refine t_X9_next hS ?_
    refine jw_mono (jw_bind h) (fun q17 h => ?_)
    show jx_Ex _ _ _ _ [.int q17.1] (jh S q17.2) _
    refine xo_31 ?_
    refine xo_2 rfl ?_
    refine xo_8 ?_
    refine xo_49 (st' := []) rfl rfl (xc_ly hS ly1) rfl (Nat.le_of_ble_eq_true rfl) ?_
    refine t_X9_number hS ?_
    refine jw_mono (jw_bind h) (fun q18 h => ?_)
    show jx_Ex _ _ _ _ [.int q18.1] (jh S q18.2) _
    refine xo_8 ?_
    refine xo_61 (t := jm_b16_184) rfl (fun hc19 => ?_) (fun hc19 => ?_)
    · replace h := jw_pos hc19 h
      refine xo_8 ?_
      replace h := jw_some h
      exact xo_70 (by decide) h
    · replace h := jw_neg hc19 h
      refine xo_8 ?_
      refine xo_54 (t := jm_b16_185) rfl ?_
      replace h := jw_some h
      exact xo_70 (by decide) h
  replace h := jw_neg hc16 h
  refine xo_sws (by decide) ?_
  refine xo_sws (by decide) ?_
  refine xo_sws (by decide) ?_
  refine xo_sws (by decide) ?_
  refine xo_swc (tb := jm_b16_112) rfl (fun hc20 => ?_) (fun hc20 => ?_)
  · replace h := jw_pos hc20 h
    refine xo_2 rfl ?_
    refine xo_49 (st' := []) rfl rfl (xc_ly hS ly1) rfl (Nat.le_of_ble_eq_true rfl) ?_
    refine t_X9_next hS ?_
    refine jw_mono (jw_bind h) (fun q21 h => ?_)
    show jx_Ex _ _ _ _ [.int q21.1] (jh S q21.2) _
    refine xo_31 ?_
    refine xo_2 rfl ?_
    refine xo_9 ?_
    refine xo_9 ?_
    refine xo_49 (st' := []) rfl rfl (xc_ly hS ly1) rfl (Nat.le_of_ble_eq_true rfl) ?_
    refine t_X9_takeOf hS ?_
    refine jw_mono (jw_bind h) (fun q22 h => ?_)
    show jx_Ex _ _ _ _ [.int q22.1] (jh S q22.2) _
    refine xo_55 (t := jm_b16_143) rfl (fun hc23 => ?_) (fun hc23 => ?_)
    · replace h := jw_pos hc23 h
      refine xo_8 ?_
      replace h := jw_some h
      exact xo_70 (by decide) h
    · replace h := jw_neg hc23 h
      refine xo_2 rfl ?_
      refine xo_9 ?_
      refine xo_9 ?_
      refine xo_49 (st' := []) rfl rfl (xc_ly hS ly1) rfl (Nat.le_of_ble_eq_true rfl) ?_
      refine t_X9_takeOf hS ?_
      refine jw_mono (jw_bind h) (fun q24 h => ?_)
      show jx_Ex _ _ _ _ [.int q24.1] (jh S q24.2) _
      refine xo_55 (t := jm_b16_143) rfl (fun hc25 => ?_) (fun hc25 => ?_)
      · replace h := jw_pos hc25 h
        refine xo_8 ?_
        replace h := jw_some h
        exact xo_70 (by decide) h
      · replace h := jw_neg hc25 h
        refine xo_8 ?_
        refine xo_54 (t := jm_b16_144) rfl ?_
        replace h := jw_some h
        exact xo_70 (by decide) h
  replace h := jw_neg hc20 h
  refine xo_swc (tb := jm_b16_112) rfl (fun hc26 => ?_) (fun hc26 => ?_)
  · replace h := jw_pos hc26 h
    refine xo_2 rfl ?_
    refine xo_49 (st' := []) rfl rfl (xc_ly hS ly1) rfl (Nat.le_of_ble_eq_true rfl) ?_
    refine t_X9_next hS ?_
    refine jw_mono (jw_bind h) (fun q27 h => ?_)
    show jx_Ex _ _ _ _ [.int q27.1] (jh S q27.2) _
    refine xo_31 ?_
    refine xo_2 rfl ?_
    refine xo_9 ?_
    refine xo_9 ?_
    refine xo_49 (st' := []) rfl rfl (xc_ly hS ly1) rfl (Nat.le_of_ble_eq_true rfl) ?_
    refine t_X9_takeOf hS ?_
    refine jw_mono (jw_bind h) (fun q28 h => ?_)
    show jx_Ex _ _ _ _ [.int q28.1] (jh S q28.2) _
    refine xo_55 (t := jm_b16_143) rfl (fun hc29 => ?_) (fun hc29 => ?_)
    · replace h := jw_pos hc29 h
      refine xo_8 ?_
      replace h := jw_some h
      exact xo_70 (by decide) h
    · replace h := jw_neg hc29 h
      refine xo_2 rfl ?_
      refine xo_9 ?_
      refine xo_9 ?_
      refine xo_49 (st' := []) rfl rfl (xc_ly hS ly1) rfl (Nat.le_of_ble_eq_true rfl) ?_
      refine t_X9_takeOf hS ?_
      refine jw_mono (jw_bind h) (fun q30 h => ?_)
      show jx_Ex _ _ _ _ [.int q30.1] (jh S q30.2) _
      refine xo_55 (t := jm_b16_143) rfl (fun hc31 => ?_) (fun hc31 => ?_)
      · replace h := jw_pos hc31 h
        refine xo_8 ?_
        replace h := jw_some h
        exact xo_70 (by decide) h
      · replace h := jw_neg hc31 h
        refine xo_8 ?_
        refine xo_54 (t := jm_b16_144) rfl ?_
        replace h := jw_some h
        exact xo_70 (by decide) h
  replace h := jw_neg hc26 h
  refine xo_sws (by decide) ?_
  refine xo_swc (tb := jm_b16_152) rfl (fun hc32 => ?_) (fun hc32 => ?_)
  · replace h := jw_pos hc32 h
    refine xo_2 rfl ?_
    refine xo_49 (st' := []) rfl rfl (xc_ly hS ly1) rfl (Nat.le_of_ble_eq_true rfl) ?_
    refine t_X9_next hS ?_
    refine jw_mono (jw_bind h) (fun q33 h => ?_)
    show jx_Ex _ _ _ _ [.int q33.1] (jh S q33.2) _
    refine xo_31 ?_
    refine xo_2 rfl ?_
    refine xo_9 ?_
    refine xo_9 ?_
    refine xo_49 (st' := []) rfl rfl (xc_ly hS ly1) rfl (Nat.le_of_ble_eq_true rfl) ?_
    refine t_X9_takeOf hS ?_
    refine jw_mono (jw_bind h) (fun q34 h => ?_)
    show jx_Ex _ _ _ _ [.int q34.1] (jh S q34.2) _
    obtain ⟨hz35, h⟩ := jw_chk h
    replace h := jw_some h
    exact xo_70 hz35 h
  replace h := jw_neg hc32 h
  refine xo_swn (tb := jm_b16_186) rfl ?_
  refine xo_8 ?_
  replace h := jw_some h
  exact xo_70 (by decide) h
/-- Grammar.inJourney, at ['x.text'] -/
def f_X1_inJourney_1_b17 : Nat → Int32 → jT → Option (Int32 × jT)
  | 0, _, _ => none
  | n + 1, x1, σ =>
    if 60 ≤ x1 then
      (f_X9_position σ).bind fun q2 =>
      some (q2.1, q2.2)
    else
      (f_X1_takeAct_1 σ).bind fun q3 =>
      if ¬ q3.1 = 0 then
        (f_X9_take 59 q3.2).bind fun q5 =>
        if ¬ q5.1 = 0 then
          f_X1_inJourney_1_b17 n (x1 + 1) q5.2
        else
          (f_X9_goesOn q5.2).bind fun q7 =>
          some (q7.1, q7.2)
      else
        (f_X9_position q3.2).bind fun q8 =>
        some (q8.1, q8.2)
def f_X1_inJourney_1 (σ : jT) : Option (Int32 × jT) :=
  (f_X9_open 60 σ).bind fun q1 =>
  (f_X9_length q1.2).bind fun q2 =>
  if ¬ q2.1 = 0 then
    f_X1_inJourney_1_b17 1000 0 q2.2
  else
    some ((-1), q2.2)
theorem t_X1_inJourney_1_b17 {S : jS} (hS : jCok S) {d : Nat} {Q : Option Value → jx_H → Prop} : ∀ (n : Nat) {x1 : Int32} {σ : jT}, jw (f_X1_inJourney_1_b17 n x1 σ) (fun q => Q (some (.int q.1)) (jh S q.2)) → jx_Ex (d + 3) jm_l15 jm_b15_17 [.ref 1, .int x1] [] (jh S σ) Q := by
  intro n
  induction n with
  | zero => intro x1 σ h; exact jw_none h
  | succ n ih =>
    intro x1 σ h
    rw [f_X1_inJourney_1_b17] at h
    refine xo_0 rfl ?_
    refine xo_9 ?_
    refine xo_64 (t := jm_b15_55) rfl (fun hc1 => ?_) (fun hc1 => ?_)
    · replace h := jw_pos hc1 h
      refine xo_2 rfl ?_
      refine xo_49 (st' := []) rfl rfl (xc_ly hS ly1) rfl (Nat.le_of_ble_eq_true rfl) ?_
      refine t_X9_position hS ?_
      refine jw_mono (jw_bind h) (fun q2 h => ?_)
      show jx_Ex _ _ _ _ [.int q2.1] (jh S q2.2) _
      replace h := jw_some h
      exact xo_69 h
    · replace h := jw_neg hc1 h
      refine xo_2 rfl ?_
      refine xo_50 (st' := []) rfl rfl rfl (Nat.le_of_ble_eq_true rfl) ?_
      refine t_X1_takeAct_1 hS ?_
      refine jw_mono (jw_bind h) (fun q3 h => ?_)
      show jx_Ex _ _ _ _ [.int q3.1] (jh S q3.2) _
      refine xo_56 (t := jm_b15_35) rfl (fun hc4 => ?_) (fun hc4 => ?_)
      · replace h := jw_pos hc4 h
        refine xo_2 rfl ?_
        refine xo_9 ?_
        refine xo_49 (st' := []) rfl rfl (xc_ly hS ly1) rfl (Nat.le_of_ble_eq_true rfl) ?_
        refine t_X9_take hS ?_
        refine jw_mono (jw_bind h) (fun q5 h => ?_)
        show jx_Ex _ _ _ _ [.int q5.1] (jh S q5.2) _
        refine xo_56 (t := jm_b15_49) rfl (fun hc6 => ?_) (fun hc6 => ?_)
        · replace h := jw_pos hc6 h
          refine xo_13 (ls' := [.ref 1, .int (x1 + 1)]) rfl rfl ?_
          refine xo_54 (t := jm_b15_17) rfl ?_
          exact ih h
        · replace h := jw_neg hc6 h
          refine xo_2 rfl ?_
          refine xo_49 (st' := []) rfl rfl (xc_ly hS ly1) rfl (Nat.le_of_ble_eq_true rfl) ?_
          refine t_X9_goesOn hS ?_
          refine jw_mono (jw_bind h) (fun q7 h => ?_)
          show jx_Ex _ _ _ _ [.int q7.1] (jh S q7.2) _
          replace h := jw_some h
          exact xo_69 h
      · replace h := jw_neg hc4 h
        refine xo_2 rfl ?_
        refine xo_49 (st' := []) rfl rfl (xc_ly hS ly1) rfl (Nat.le_of_ble_eq_true rfl) ?_
        refine t_X9_position hS ?_
        refine jw_mono (jw_bind h) (fun q8 h => ?_)
        show jx_Ex _ _ _ _ [.int q8.1] (jh S q8.2) _
        replace h := jw_some h
        exact xo_69 h
theorem t_X1_inJourney_1 {S : jS} (hS : jCok S) {d : Nat} {Q : Option Value → jx_H → Prop} {σ : jT} (h : jw (f_X1_inJourney_1 σ) (fun q => Q (some (.int q.1)) (jh S q.2))) : jx_Sp (d + 3) 15 [.ref 1] (jh S σ) Q := by
  refine ⟨jm_i15, jm_at15, rfl, rfl, ?_⟩
  show jx_Ex _ jm_l15 jm_b15_0 [.ref 1, .retAddr 0] [] _ _
  unfold f_X1_inJourney_1 at h
  refine xo_2 rfl ?_
  refine xo_9 ?_
  refine xo_49 (st' := []) rfl rfl (xc_ly hS ly1) rfl (Nat.le_of_ble_eq_true rfl) ?_
  refine t_X9_open hS ?_
  refine jw_mono (jw_bind h) (fun q1 h => ?_)
  show jx_Ex _ _ _ _ [] (jh S q1.2) _
  refine xo_2 rfl ?_
  refine xo_49 (st' := []) rfl rfl (xc_ly hS ly1) rfl (Nat.le_of_ble_eq_true rfl) ?_
  refine t_X9_length hS ?_
  refine jw_mono (jw_bind h) (fun q2 h => ?_)
  show jx_Ex _ _ _ _ [.int q2.1] (jh S q2.2) _
  refine xo_56 (t := jm_b15_15) rfl (fun hc3 => ?_) (fun hc3 => ?_)
  · replace h := jw_pos hc3 h
    refine xo_8 ?_
    refine xo_4 (ls' := [.ref 1, .int 0]) rfl ?_
    exact t_X1_inJourney_1_b17 hS 1000 h
  · replace h := jw_neg hc3 h
    refine xo_8 ?_
    replace h := jw_some h
    exact xo_69 h
/-- Row.tell, at ['x.told', 'int', 'int'] -/
def f_X6_tell_ (x1 : Int32) (x2 : Int32) (σ : jT) : Option (Int32 × jT) :=
  (f_X6_clear σ).bind fun q1 =>
  (f_X6_put x1 q1.2).bind fun q2 =>
  (f_X6_put x2 q2.2).bind fun q3 =>
  some (0, q3.2)
theorem t_X6_tell_ {S : jS} (hS : jCok S) {d : Nat} {Q : Option Value → jx_H → Prop} {x1 : Int32} {x2 : Int32} {σ : jT} (h : jw (f_X6_tell_ x1 x2 σ) (fun q => Q none (jh S q.2))) : jx_Sp (d + 1) 71 [.ref 47, .int x1, .int x2] (jh S σ) Q := by
  refine ⟨jm_i71, jm_at71, rfl, rfl, ?_⟩
  show jx_Ex _ jm_l71 jm_b71_0 [.ref 47, .int x1, .int x2] [] _ _
  unfold f_X6_tell_ at h
  refine xo_2 rfl ?_
  refine xo_49 (st' := []) rfl rfl (xc_ly hS ly47) rfl (Nat.le_of_ble_eq_true rfl) ?_
  refine t_X6_clear hS ?_
  refine jw_mono (jw_bind h) (fun q1 h => ?_)
  show jx_Ex _ _ _ _ [] (jh S q1.2) _
  refine xo_2 rfl ?_
  refine xo_0 rfl ?_
  refine xo_49 (st' := []) rfl rfl (xc_ly hS ly47) rfl (Nat.le_of_ble_eq_true rfl) ?_
  refine t_X6_put hS ?_
  refine jw_mono (jw_bind h) (fun q2 h => ?_)
  show jx_Ex _ _ _ _ [] (jh S q2.2) _
  refine xo_2 rfl ?_
  refine xo_0 rfl ?_
  refine xo_49 (st' := []) rfl rfl (xc_ly hS ly47) rfl (Nat.le_of_ble_eq_true rfl) ?_
  refine t_X6_put hS ?_
  refine jw_mono (jw_bind h) (fun q3 h => ?_)
  show jx_Ex _ _ _ _ [] (jh S q3.2) _
  replace h := jw_some h
  exact xo_71 h
/-- OfDifferentMinds.act, at ['x', 'int', 'int', 'int'] -/
def f_X10_act (x1 : Int32) (x2 : Int32) (x3 : Int32) (σ : jT) : Option (Int32 × jT) :=
  if x1 = 100 then
    (f_X10_getOff σ).bind fun q2 =>
    some (q2.1, q2.2)
  else
  if x1 = 108 then
    (f_X10_goLeading x2 x3 σ).bind fun q4 =>
    some (q4.1, q4.2)
  else
  if x1 = 109 then
    (f_X10_getOn x2 x3 σ).bind fun q6 =>
    some (q6.1, q6.2)
  else
  if x1 = 114 then
    (f_X10_goOn x2 σ).bind fun q8 =>
    some (q8.1, q8.2)
  else
  if x1 = 119 then
    (f_X10_goAfoot x2 x3 σ).bind fun q10 =>
    some (q10.1, q10.2)
  else
  if x1 = 120 then
    (f_X10_changeMaps x2 x3 σ).bind fun q12 =>
    some (q12.1, q12.2)
  else
  if x1 = 122 then
    (f_X10_sleep x2 σ).bind fun q14 =>
    some (q14.1, q14.2)
  else
  some ((-1), σ)
theorem t_X10_act {S : jS} (hS : jCok S) {d : Nat} {Q : Option Value → jx_H → Prop} {x1 : Int32} {x2 : Int32} {x3 : Int32} {σ : jT} (h : jw (f_X10_act x1 x2 x3 σ) (fun q => Q (some (.int q.1)) (jh S q.2))) : jx_Sp (d + 6) 160 [.ref 0, .int x1, .int x2, .int x3] (jh S σ) Q := by
  refine ⟨jm_i160, jm_at160, rfl, rfl, ?_⟩
  show jx_Ex _ jm_l160 jm_b160_0 [.ref 0, .int x1, .int x2, .int x3] [] _ _
  unfold f_X10_act at h
  refine xo_0 rfl ?_
  refine xo_67 ?_
  refine xo_swc (tb := jm_b160_115) rfl (fun hc1 => ?_) (fun hc1 => ?_)
  · replace h := jw_pos hc1 h
    refine xo_2 rfl ?_
    refine xo_49 (st' := []) rfl rfl (xc_ly hS ly0) rfl (Nat.le_of_ble_eq_true rfl) ?_
    refine t_X10_getOff hS ?_
    refine jw_mono (jw_bind h) (fun q2 h => ?_)
    show jx_Ex _ _ _ _ [.int q2.1] (jh S q2.2) _
    replace h := jw_some h
    exact xo_69 h
  replace h := jw_neg hc1 h
  refine xo_sws (by decide) ?_
  refine xo_sws (by decide) ?_
  refine xo_sws (by decide) ?_
  refine xo_sws (by decide) ?_
  refine xo_sws (by decide) ?_
  refine xo_sws (by decide) ?_
  refine xo_sws (by decide) ?_
  refine xo_swc (tb := jm_b160_133) rfl (fun hc3 => ?_) (fun hc3 => ?_)
  · replace h := jw_pos hc3 h
    refine xo_2 rfl ?_
    refine xo_0 rfl ?_
    refine xo_0 rfl ?_
    refine xo_49 (st' := []) rfl rfl (xc_ly hS ly0) rfl (Nat.le_of_ble_eq_true rfl) ?_
    refine t_X10_goLeading hS ?_
    refine jw_mono (jw_bind h) (fun q4 h => ?_)
    show jx_Ex _ _ _ _ [.int q4.1] (jh S q4.2) _
    replace h := jw_some h
    exact xo_69 h
  replace h := jw_neg hc3 h
  refine xo_swc (tb := jm_b160_108) rfl (fun hc5 => ?_) (fun hc5 => ?_)
  · replace h := jw_pos hc5 h
    refine xo_2 rfl ?_
    refine xo_0 rfl ?_
    refine xo_0 rfl ?_
    refine xo_49 (st' := []) rfl rfl (xc_ly hS ly0) rfl (Nat.le_of_ble_eq_true rfl) ?_
    refine t_X10_getOn hS ?_
    refine jw_mono (jw_bind h) (fun q6 h => ?_)
    show jx_Ex _ _ _ _ [.int q6.1] (jh S q6.2) _
    replace h := jw_some h
    exact xo_69 h
  replace h := jw_neg hc5 h
  refine xo_sws (by decide) ?_
  refine xo_sws (by decide) ?_
  refine xo_sws (by decide) ?_
  refine xo_sws (by decide) ?_
  refine xo_swc (tb := jm_b160_120) rfl (fun hc7 => ?_) (fun hc7 => ?_)
  · replace h := jw_pos hc7 h
    refine xo_2 rfl ?_
    refine xo_0 rfl ?_
    refine xo_49 (st' := []) rfl rfl (xc_ly hS ly0) rfl (Nat.le_of_ble_eq_true rfl) ?_
    refine t_X10_goOn hS ?_
    refine jw_mono (jw_bind h) (fun q8 h => ?_)
    show jx_Ex _ _ _ _ [.int q8.1] (jh S q8.2) _
    replace h := jw_some h
    exact xo_69 h
  replace h := jw_neg hc7 h
  refine xo_sws (by decide) ?_
  refine xo_sws (by decide) ?_
  refine xo_sws (by decide) ?_
  refine xo_sws (by decide) ?_
  refine xo_swc (tb := jm_b160_126) rfl (fun hc9 => ?_) (fun hc9 => ?_)
  · replace h := jw_pos hc9 h
    refine xo_2 rfl ?_
    refine xo_0 rfl ?_
    refine xo_0 rfl ?_
    refine xo_49 (st' := []) rfl rfl (xc_ly hS ly0) rfl (Nat.le_of_ble_eq_true rfl) ?_
    refine t_X10_goAfoot hS ?_
    refine jw_mono (jw_bind h) (fun q10 h => ?_)
    show jx_Ex _ _ _ _ [.int q10.1] (jh S q10.2) _
    replace h := jw_some h
    exact xo_69 h
  replace h := jw_neg hc9 h
  refine xo_swc (tb := jm_b160_146) rfl (fun hc11 => ?_) (fun hc11 => ?_)
  · replace h := jw_pos hc11 h
    refine xo_2 rfl ?_
    refine xo_0 rfl ?_
    refine xo_0 rfl ?_
    refine xo_49 (st' := []) rfl rfl (xc_ly hS ly0) rfl (Nat.le_of_ble_eq_true rfl) ?_
    refine t_X10_changeMaps hS ?_
    refine jw_mono (jw_bind h) (fun q12 h => ?_)
    show jx_Ex _ _ _ _ [.int q12.1] (jh S q12.2) _
    replace h := jw_some h
    exact xo_69 h
  replace h := jw_neg hc11 h
  refine xo_sws (by decide) ?_
  refine xo_swc (tb := jm_b160_140) rfl (fun hc13 => ?_) (fun hc13 => ?_)
  · replace h := jw_pos hc13 h
    refine xo_2 rfl ?_
    refine xo_0 rfl ?_
    refine xo_49 (st' := []) rfl rfl (xc_ly hS ly0) rfl (Nat.le_of_ble_eq_true rfl) ?_
    refine t_X10_sleep hS ?_
    refine jw_mono (jw_bind h) (fun q14 h => ?_)
    show jx_Ex _ _ _ _ [.int q14.1] (jh S q14.2) _
    replace h := jw_some h
    exact xo_69 h
  replace h := jw_neg hc13 h
  refine xo_swn (tb := jm_b160_153) rfl ?_
  refine xo_8 ?_
  replace h := jw_some h
  exact xo_69 h
/-- OfDifferentMinds.journey, at ['x'] -/
def f_X10_journey_b222 (x2 : Int32) (x3 : Int32) (s0 : Int32) (σ : jT) : Option (Int32 × jT) :=
  (f_X6_tell_ s0 x3 σ).bind fun q1 =>
  some (x2, q1.2)
def f_X10_journey_b201 (x2 : Int32) (x3 : Int32) (x4 : Int32) (σ : jT) : Option (Int32 × jT) :=
  (f_X9_clear σ).bind fun q1 =>
  if x4 = 0 then
    f_X10_journey_b222 x2 x3 0 q1.2
  else
    f_X10_journey_b222 x2 x3 1 q1.2
def f_X10_journey_b190 (x2 : Int32) (x3 : Int32) (x4 : Int32) (σ : jT) : Option (Int32 × jT) :=
  if x2 ≤ 0 then
    f_X10_journey_b201 x2 x3 x4 σ
  else
    (f_X2_push σ).bind fun q2 =>
    f_X10_journey_b201 x2 x3 x4 q2.2
def f_X10_journey_b182 (k54 : Int32 → Int32 → Int32 → Int32 → jT → Option (Int32 × jT)) (x2 : Int32) (x4 : Int32) (x5 : Int32) (s0 : Int32) (s1 : Int32) (σ : jT) : Option (Int32 × jT) :=
  k54 x2 (s1 + s0) x4 (x5 + 1) σ
def f_X10_journey_b176 (k54 : Int32 → Int32 → Int32 → Int32 → jT → Option (Int32 × jT)) (x2 : Int32) (x4 : Int32) (x5 : Int32) (s0 : Int32) (σ : jT) : Option (Int32 × jT) :=
  f_X10_journey_b182 k54 x2 x4 x5 0 s0 σ
def f_X10_journey_b161 (k54 : Int32 → Int32 → Int32 → Int32 → jT → Option (Int32 × jT)) (x3 : Int32) (x4 : Int32) (x5 : Int32) (x6 : Int32) (x9 : Int32) (s0 : Int32) (s1 : Int32) (σ : jT) : Option (Int32 × jT) :=
  if ¬ x4 = 0 then
    f_X10_journey_b176 k54 (s1 + s0) x4 x5 x3 σ
  else
    if x6 = 114 then
      f_X10_journey_b182 k54 (s1 + s0) x4 x5 x9 x3 σ
    else
      f_X10_journey_b176 k54 (s1 + s0) x4 x5 x3 σ
def f_X10_journey_b148 (k54 : Int32 → Int32 → Int32 → Int32 → jT → Option (Int32 × jT)) (x2 : Int32) (x3 : Int32) (x5 : Int32) (x6 : Int32) (x9 : Int32) (s0 : Int32) (σ : jT) : Option (Int32 × jT) :=
  if s0 = 0 then
    f_X10_journey_b161 k54 x3 s0 x5 x6 x9 1 x2 σ
  else
    f_X10_journey_b161 k54 x3 s0 x5 x6 x9 0 x2 σ
def f_X10_journey_b101 (k54 : Int32 → Int32 → Int32 → Int32 → jT → Option (Int32 × jT)) (x2 : Int32) (x3 : Int32) (x5 : Int32) (x6 : Int32) (s0 : Int32) (σ : jT) : Option (Int32 × jT) :=
  (f_X9_number s0 σ).bind fun q1 =>
  (f_X9_number 1 q1.2).bind fun q2 =>
  (f_X9_take 59 q2.2).bind fun q3 =>
  (f_X10_act x6 q1.1 q2.1 q3.2).bind fun q4 =>
  if 0 ≤ q4.1 then
    f_X10_journey_b148 k54 x2 x3 x5 x6 q4.1 0 q4.2
  else
    f_X10_journey_b148 k54 x2 x3 x5 x6 q4.1 1 q4.2
def f_X10_journey_b54 : Nat → Int32 → Int32 → Int32 → Int32 → jT → Option (Int32 × jT)
  | 0, _, _, _, _, _ => none
  | n + 1, x2, x3, x4, x5, σ =>
    if 60 ≤ x5 then
      f_X10_journey_b190 x2 x3 x4 σ
    else
      if ¬ x4 = 0 then
        f_X10_journey_b190 x2 x3 x4 σ
      else
        (f_X9_isOver σ).bind fun q3 =>
        if ¬ q3.1 = 0 then
          f_X10_journey_b190 x2 x3 x4 q3.2
        else
          (f_X9_next q3.2).bind fun q5 =>
          if ¬ q5.1 = 114 then
            f_X10_journey_b101 (f_X10_journey_b54 n) x2 x3 x5 q5.1 1 q5.2
          else
            f_X10_journey_b101 (f_X10_journey_b54 n) x2 x3 x5 q5.1 2 q5.2
def f_X10_journey (σ : jT) : Option (Int32 × jT) :=
  (f_X1_inJourney_1 σ).bind fun q1 =>
  if q1.1 = (-1) then
    (f_X2_note_12 q1.2).bind fun q3 =>
    (f_X9_open 60 q3.2).bind fun q4 =>
    f_X10_journey_b54 1000 0 0 0 0 q4.2
  else
    (f_X9_clear q1.2).bind fun q5 =>
    some (((-1) - q1.1), q5.2)
theorem t_X10_journey_b222 {S : jS} (hS : jCok S) {d : Nat} {Q : Option Value → jx_H → Prop} {x2 : Int32} {x3 : Int32} {s0 : Int32} {w0 : Value} {w1 : Value} {w4 : Value} {w5 : Value} {w6 : Value} {w7 : Value} {w8 : Value} {w9 : Value} {σ : jT} (h : jw (f_X10_journey_b222 x2 x3 s0 σ) (fun q => Q (some (.int q.1)) (jh S q.2))) : jx_Ex (d + 7) jm_l159 jm_b159_222 [w0, w1, .int x2, .int x3, w4, w5, w6, w7, w8, w9] [.int s0, .ref 47] (jh S σ) Q := by
  unfold f_X10_journey_b222 at h
  refine xo_0 rfl ?_
  refine xo_49 (st' := []) rfl rfl (xc_ly hS ly47) rfl (Nat.le_of_ble_eq_true rfl) ?_
  refine t_X6_tell_ hS ?_
  refine jw_mono (jw_bind h) (fun q1 h => ?_)
  show jx_Ex _ _ _ _ [] (jh S q1.2) _
  refine xo_0 rfl ?_
  replace h := jw_some h
  exact xo_69 h
theorem t_X10_journey_b201 {S : jS} (hS : jCok S) {d : Nat} {Q : Option Value → jx_H → Prop} {x2 : Int32} {x3 : Int32} {x4 : Int32} {w1 : Value} {w5 : Value} {w6 : Value} {w7 : Value} {w8 : Value} {w9 : Value} {σ : jT} (h : jw (f_X10_journey_b201 x2 x3 x4 σ) (fun q => Q (some (.int q.1)) (jh S q.2))) : jx_Ex (d + 7) jm_l159 jm_b159_201 [.ref 0, w1, .int x2, .int x3, .int x4, w5, w6, w7, w8, w9] [] (jh S σ) Q := by
  unfold f_X10_journey_b201 at h
  refine xo_2 rfl ?_
  refine xc_33 (i := 0) (q := 1) hS ly0 rfl (xc_P hS (by decide)) ?_
  refine xo_49 (st' := []) rfl rfl (xc_ly hS ly1) rfl (Nat.le_of_ble_eq_true rfl) ?_
  refine t_X9_clear hS ?_
  refine jw_mono (jw_bind h) (fun q1 h => ?_)
  show jx_Ex _ _ _ _ [] (jh S q1.2) _
  refine xo_2 rfl ?_
  refine xc_33 (i := 5) (q := 47) hS ly0 rfl (xc_P hS (by decide)) ?_
  refine xo_1 rfl ?_
  refine xo_55 (t := jm_b159_221) rfl (fun hc2 => ?_) (fun hc2 => ?_)
  · replace h := jw_pos hc2 h
    refine xo_8 ?_
    exact t_X10_journey_b222 hS h
  · replace h := jw_neg hc2 h
    refine xo_8 ?_
    refine xo_54 (t := jm_b159_222) rfl ?_
    exact t_X10_journey_b222 hS h
theorem t_X10_journey_b190 {S : jS} (hS : jCok S) {d : Nat} {Q : Option Value → jx_H → Prop} {x2 : Int32} {x3 : Int32} {x4 : Int32} {w1 : Value} {w5 : Value} {w6 : Value} {w7 : Value} {w8 : Value} {w9 : Value} {σ : jT} (h : jw (f_X10_journey_b190 x2 x3 x4 σ) (fun q => Q (some (.int q.1)) (jh S q.2))) : jx_Ex (d + 7) jm_l159 jm_b159_190 [.ref 0, w1, .int x2, .int x3, .int x4, w5, w6, w7, w8, w9] [] (jh S σ) Q := by
  unfold f_X10_journey_b190 at h
  refine xo_0 rfl ?_
  refine xo_60 (t := jm_b159_201) rfl (fun hc1 => ?_) (fun hc1 => ?_)
  · replace h := jw_pos hc1 h
    exact t_X10_journey_b201 hS h
  · replace h := jw_neg hc1 h
    refine xo_2 rfl ?_
    refine xc_33 (i := 4) (q := 14) hS ly0 rfl (xc_P hS (by decide)) ?_
    refine xo_49 (st' := []) rfl rfl (xc_ly hS ly14) rfl (Nat.le_of_ble_eq_true rfl) ?_
    refine t_X2_push hS ?_
    refine jw_mono (jw_bind h) (fun q2 h => ?_)
    show jx_Ex _ _ _ _ [] (jh S q2.2) _
    exact t_X10_journey_b201 hS h
theorem t_X10_journey_b182 {S : jS} (hS : jCok S) {d : Nat} {Q : Option Value → jx_H → Prop} {k54 : Int32 → Int32 → Int32 → Int32 → jT → Option (Int32 × jT)} (hk54 : ∀ {x2 : Int32} {x3 : Int32} {x4 : Int32} {x5 : Int32} {w1 : Value} {w6 : Value} {w7 : Value} {w8 : Value} {w9 : Value} {σ : jT}, jw (k54 x2 x3 x4 x5 σ) (fun q => Q (some (.int q.1)) (jh S q.2)) → jx_Ex (d + 7) jm_l159 jm_b159_54 [.ref 0, w1, .int x2, .int x3, .int x4, .int x5, w6, w7, w8, w9] [] (jh S σ) Q) {x2 : Int32} {x4 : Int32} {x5 : Int32} {s0 : Int32} {s1 : Int32} {w1 : Value} {w3 : Value} {w6 : Value} {w7 : Value} {w8 : Value} {w9 : Value} {σ : jT} (h : jw (f_X10_journey_b182 k54 x2 x4 x5 s0 s1 σ) (fun q => Q (some (.int q.1)) (jh S q.2))) : jx_Ex (d + 7) jm_l159 jm_b159_182 [.ref 0, w1, .int x2, w3, .int x4, .int x5, w6, w7, w8, w9] [.int s0, .int s1] (jh S σ) Q := by
  unfold f_X10_journey_b182 at h
  refine xo_14 ?_
  refine xo_4 (ls' := [.ref 0, w1, .int x2, .int (s1 + s0), .int x4, .int x5, w6, w7, w8, w9]) rfl ?_
  refine xo_13 (ls' := [.ref 0, w1, .int x2, .int (s1 + s0), .int x4, .int (x5 + 1), w6, w7, w8, w9]) rfl rfl ?_
  refine xo_54 (t := jm_b159_54) rfl ?_
  exact hk54 h
theorem t_X10_journey_b176 {S : jS} (hS : jCok S) {d : Nat} {Q : Option Value → jx_H → Prop} {k54 : Int32 → Int32 → Int32 → Int32 → jT → Option (Int32 × jT)} (hk54 : ∀ {x2 : Int32} {x3 : Int32} {x4 : Int32} {x5 : Int32} {w1 : Value} {w6 : Value} {w7 : Value} {w8 : Value} {w9 : Value} {σ : jT}, jw (k54 x2 x3 x4 x5 σ) (fun q => Q (some (.int q.1)) (jh S q.2)) → jx_Ex (d + 7) jm_l159 jm_b159_54 [.ref 0, w1, .int x2, .int x3, .int x4, .int x5, w6, w7, w8, w9] [] (jh S σ) Q) {x2 : Int32} {x4 : Int32} {x5 : Int32} {s0 : Int32} {w1 : Value} {w3 : Value} {w6 : Value} {w7 : Value} {w8 : Value} {w9 : Value} {σ : jT} (h : jw (f_X10_journey_b176 k54 x2 x4 x5 s0 σ) (fun q => Q (some (.int q.1)) (jh S q.2))) : jx_Ex (d + 7) jm_l159 jm_b159_176 [.ref 0, w1, .int x2, w3, .int x4, .int x5, w6, w7, w8, w9] [.int s0] (jh S σ) Q := by
  unfold f_X10_journey_b176 at h
  refine xo_8 ?_
  refine xo_54 (t := jm_b159_182) rfl ?_
  exact t_X10_journey_b182 hS hk54 h
theorem t_X10_journey_b161 {S : jS} (hS : jCok S) {d : Nat} {Q : Option Value → jx_H → Prop} {k54 : Int32 → Int32 → Int32 → Int32 → jT → Option (Int32 × jT)} (hk54 : ∀ {x2 : Int32} {x3 : Int32} {x4 : Int32} {x5 : Int32} {w1 : Value} {w6 : Value} {w7 : Value} {w8 : Value} {w9 : Value} {σ : jT}, jw (k54 x2 x3 x4 x5 σ) (fun q => Q (some (.int q.1)) (jh S q.2)) → jx_Ex (d + 7) jm_l159 jm_b159_54 [.ref 0, w1, .int x2, .int x3, .int x4, .int x5, w6, w7, w8, w9] [] (jh S σ) Q) {x3 : Int32} {x4 : Int32} {x5 : Int32} {x6 : Int32} {x9 : Int32} {s0 : Int32} {s1 : Int32} {w1 : Value} {w2 : Value} {w7 : Value} {w8 : Value} {σ : jT} (h : jw (f_X10_journey_b161 k54 x3 x4 x5 x6 x9 s0 s1 σ) (fun q => Q (some (.int q.1)) (jh S q.2))) : jx_Ex (d + 7) jm_l159 jm_b159_161 [.ref 0, w1, w2, .int x3, .int x4, .int x5, .int x6, w7, w8, .int x9] [.int s0, .int s1] (jh S σ) Q := by
  unfold f_X10_journey_b161 at h
  refine xo_14 ?_
  refine xo_4 (ls' := [.ref 0, w1, .int (s1 + s0), .int x3, .int x4, .int x5, .int x6, w7, w8, .int x9]) rfl ?_
  refine xo_0 rfl ?_
  refine xo_1 rfl ?_
  refine xo_56 (t := jm_b159_176) rfl (fun hc1 => ?_) (fun hc1 => ?_)
  · replace h := jw_pos hc1 h
    exact t_X10_journey_b176 hS hk54 h
  · replace h := jw_neg hc1 h
    refine xo_1 rfl ?_
    refine xo_9 ?_
    refine xo_61 (t := jm_b159_180) rfl (fun hc2 => ?_) (fun hc2 => ?_)
    · replace h := jw_pos hc2 h
      refine xo_1 rfl ?_
      exact t_X10_journey_b182 hS hk54 h
    · replace h := jw_neg hc2 h
      exact t_X10_journey_b176 hS hk54 h
theorem t_X10_journey_b148 {S : jS} (hS : jCok S) {d : Nat} {Q : Option Value → jx_H → Prop} {k54 : Int32 → Int32 → Int32 → Int32 → jT → Option (Int32 × jT)} (hk54 : ∀ {x2 : Int32} {x3 : Int32} {x4 : Int32} {x5 : Int32} {w1 : Value} {w6 : Value} {w7 : Value} {w8 : Value} {w9 : Value} {σ : jT}, jw (k54 x2 x3 x4 x5 σ) (fun q => Q (some (.int q.1)) (jh S q.2)) → jx_Ex (d + 7) jm_l159 jm_b159_54 [.ref 0, w1, .int x2, .int x3, .int x4, .int x5, w6, w7, w8, w9] [] (jh S σ) Q) {x2 : Int32} {x3 : Int32} {x5 : Int32} {x6 : Int32} {x9 : Int32} {s0 : Int32} {w1 : Value} {w4 : Value} {w7 : Value} {w8 : Value} {σ : jT} (h : jw (f_X10_journey_b148 k54 x2 x3 x5 x6 x9 s0 σ) (fun q => Q (some (.int q.1)) (jh S q.2))) : jx_Ex (d + 7) jm_l159 jm_b159_148 [.ref 0, w1, .int x2, .int x3, w4, .int x5, .int x6, w7, w8, .int x9] [.int s0] (jh S σ) Q := by
  unfold f_X10_journey_b148 at h
  refine xo_5 (ls' := [.ref 0, w1, .int x2, .int x3, .int s0, .int x5, .int x6, w7, w8, .int x9]) rfl ?_
  refine xo_0 rfl ?_
  refine xo_1 rfl ?_
  refine xo_55 (t := jm_b159_160) rfl (fun hc1 => ?_) (fun hc1 => ?_)
  · replace h := jw_pos hc1 h
    refine xo_8 ?_
    exact t_X10_journey_b161 hS hk54 h
  · replace h := jw_neg hc1 h
    refine xo_8 ?_
    refine xo_54 (t := jm_b159_161) rfl ?_
    exact t_X10_journey_b161 hS hk54 h
theorem t_X10_journey_b101 {S : jS} (hS : jCok S) {d : Nat} {Q : Option Value → jx_H → Prop} {k54 : Int32 → Int32 → Int32 → Int32 → jT → Option (Int32 × jT)} (hk54 : ∀ {x2 : Int32} {x3 : Int32} {x4 : Int32} {x5 : Int32} {w1 : Value} {w6 : Value} {w7 : Value} {w8 : Value} {w9 : Value} {σ : jT}, jw (k54 x2 x3 x4 x5 σ) (fun q => Q (some (.int q.1)) (jh S q.2)) → jx_Ex (d + 7) jm_l159 jm_b159_54 [.ref 0, w1, .int x2, .int x3, .int x4, .int x5, w6, w7, w8, w9] [] (jh S σ) Q) {x2 : Int32} {x3 : Int32} {x5 : Int32} {x6 : Int32} {s0 : Int32} {w1 : Value} {w4 : Value} {w7 : Value} {w8 : Value} {w9 : Value} {σ : jT} (h : jw (f_X10_journey_b101 k54 x2 x3 x5 x6 s0 σ) (fun q => Q (some (.int q.1)) (jh S q.2))) : jx_Ex (d + 7) jm_l159 jm_b159_101 [.ref 0, w1, .int x2, .int x3, w4, .int x5, .int x6, w7, w8, w9] [.int s0, .ref 1] (jh S σ) Q := by
  unfold f_X10_journey_b101 at h
  refine xo_49 (st' := []) rfl rfl (xc_ly hS ly1) rfl (Nat.le_of_ble_eq_true rfl) ?_
  refine t_X9_number hS ?_
  refine jw_mono (jw_bind h) (fun q1 h => ?_)
  show jx_Ex _ _ _ _ [.int q1.1] (jh S q1.2) _
  refine xo_5 (ls' := [.ref 0, w1, .int x2, .int x3, w4, .int x5, .int x6, .int q1.1, w8, w9]) rfl ?_
  refine xo_2 rfl ?_
  refine xc_33 (i := 0) (q := 1) hS ly0 rfl (xc_P hS (by decide)) ?_
  refine xo_8 ?_
  refine xo_49 (st' := []) rfl rfl (xc_ly hS ly1) rfl (Nat.le_of_ble_eq_true rfl) ?_
  refine t_X9_number hS ?_
  refine jw_mono (jw_bind h) (fun q2 h => ?_)
  show jx_Ex _ _ _ _ [.int q2.1] (jh S q2.2) _
  refine xo_5 (ls' := [.ref 0, w1, .int x2, .int x3, w4, .int x5, .int x6, .int q1.1, .int q2.1, w9]) rfl ?_
  refine xo_2 rfl ?_
  refine xc_33 (i := 0) (q := 1) hS ly0 rfl (xc_P hS (by decide)) ?_
  refine xo_9 ?_
  refine xo_49 (st' := []) rfl rfl (xc_ly hS ly1) rfl (Nat.le_of_ble_eq_true rfl) ?_
  refine t_X9_take hS ?_
  refine jw_mono (jw_bind h) (fun q3 h => ?_)
  show jx_Ex _ _ _ _ [.int q3.1] (jh S q3.2) _
  refine xo_31 ?_
  refine xo_2 rfl ?_
  refine xo_1 rfl ?_
  refine xo_1 rfl ?_
  refine xo_1 rfl ?_
  refine xo_49 (st' := []) rfl rfl (xc_ly hS ly0) rfl (Nat.le_of_ble_eq_true rfl) ?_
  refine t_X10_act hS ?_
  refine jw_mono (jw_bind h) (fun q4 h => ?_)
  show jx_Ex _ _ _ _ [.int q4.1] (jh S q4.2) _
  refine xo_5 (ls' := [.ref 0, w1, .int x2, .int x3, w4, .int x5, .int x6, .int q1.1, .int q2.1, .int q4.1]) rfl ?_
  refine xo_1 rfl ?_
  refine xo_58 (t := jm_b159_147) rfl (fun hc5 => ?_) (fun hc5 => ?_)
  · replace h := jw_pos hc5 h
    refine xo_8 ?_
    exact t_X10_journey_b148 hS hk54 h
  · replace h := jw_neg hc5 h
    refine xo_8 ?_
    refine xo_54 (t := jm_b159_148) rfl ?_
    exact t_X10_journey_b148 hS hk54 h
theorem t_X10_journey_b54 {S : jS} (hS : jCok S) {d : Nat} {Q : Option Value → jx_H → Prop} : ∀ (n : Nat) {x2 : Int32} {x3 : Int32} {x4 : Int32} {x5 : Int32} {w1 : Value} {w6 : Value} {w7 : Value} {w8 : Value} {w9 : Value} {σ : jT}, jw (f_X10_journey_b54 n x2 x3 x4 x5 σ) (fun q => Q (some (.int q.1)) (jh S q.2)) → jx_Ex (d + 7) jm_l159 jm_b159_54 [.ref 0, w1, .int x2, .int x3, .int x4, .int x5, w6, w7, w8, w9] [] (jh S σ) Q := by
  intro n
  induction n with
  | zero => intro x2 x3 x4 x5 w1 w6 w7 w8 w9 σ h; exact jw_none h
  | succ n ih =>
    intro x2 x3 x4 x5 w1 w6 w7 w8 w9 σ h
    rw [f_X10_journey_b54] at h
    refine xo_1 rfl ?_
    refine xo_9 ?_
    refine xo_64 (t := jm_b159_190) rfl (fun hc1 => ?_) (fun hc1 => ?_)
    · replace h := jw_pos hc1 h
      exact t_X10_journey_b190 hS h
    · replace h := jw_neg hc1 h
      refine xo_1 rfl ?_
      refine xo_56 (t := jm_b159_190) rfl (fun hc2 => ?_) (fun hc2 => ?_)
      · replace h := jw_pos hc2 h
        exact t_X10_journey_b190 hS h
      · replace h := jw_neg hc2 h
        refine xo_2 rfl ?_
        refine xc_33 (i := 0) (q := 1) hS ly0 rfl (xc_P hS (by decide)) ?_
        refine xo_49 (st' := []) rfl rfl (xc_ly hS ly1) rfl (Nat.le_of_ble_eq_true rfl) ?_
        refine t_X9_isOver hS ?_
        refine jw_mono (jw_bind h) (fun q3 h => ?_)
        show jx_Ex _ _ _ _ [.int q3.1] (jh S q3.2) _
        refine xo_56 (t := jm_b159_190) rfl (fun hc4 => ?_) (fun hc4 => ?_)
        · replace h := jw_pos hc4 h
          exact t_X10_journey_b190 hS h
        · replace h := jw_neg hc4 h
          refine xo_2 rfl ?_
          refine xc_33 (i := 0) (q := 1) hS ly0 rfl (xc_P hS (by decide)) ?_
          refine xo_49 (st' := []) rfl rfl (xc_ly hS ly1) rfl (Nat.le_of_ble_eq_true rfl) ?_
          refine t_X9_next hS ?_
          refine jw_mono (jw_bind h) (fun q5 h => ?_)
          show jx_Ex _ _ _ _ [.int q5.1] (jh S q5.2) _
          refine xo_5 (ls' := [.ref 0, w1, .int x2, .int x3, .int x4, .int x5, .int q5.1, w7, w8, w9]) rfl ?_
          refine xo_2 rfl ?_
          refine xc_33 (i := 0) (q := 1) hS ly0 rfl (xc_P hS (by decide)) ?_
          refine xo_1 rfl ?_
          refine xo_9 ?_
          refine xo_62 (t := jm_b159_100) rfl (fun hc6 => ?_) (fun hc6 => ?_)
          · replace h := jw_pos hc6 h
            refine xo_8 ?_
            exact t_X10_journey_b101 hS ih h
          · replace h := jw_neg hc6 h
            refine xo_8 ?_
            refine xo_54 (t := jm_b159_101) rfl ?_
            exact t_X10_journey_b101 hS ih h
theorem t_X10_journey {S : jS} (hS : jCok S) {d : Nat} {Q : Option Value → jx_H → Prop} {σ : jT} (h : jw (f_X10_journey σ) (fun q => Q (some (.int q.1)) (jh S q.2))) : jx_Sp (d + 7) 159 [.ref 0] (jh S σ) Q := by
  refine ⟨jm_i159, jm_at159, rfl, rfl, ?_⟩
  show jx_Ex _ jm_l159 jm_b159_0 [.ref 0, .retAddr 0, .retAddr 0, .retAddr 0, .retAddr 0, .retAddr 0, .retAddr 0, .retAddr 0, .retAddr 0, .retAddr 0] [] _ _
  unfold f_X10_journey at h
  refine xo_2 rfl ?_
  refine xc_33 (i := 0) (q := 1) hS ly0 rfl (xc_P hS (by decide)) ?_
  refine xo_50 (st' := []) rfl rfl rfl (Nat.le_of_ble_eq_true rfl) ?_
  refine t_X1_inJourney_1 hS ?_
  refine jw_mono (jw_bind h) (fun q1 h => ?_)
  show jx_Ex _ _ _ _ [.int q1.1] (jh S q1.2) _
  refine xo_4 (ls' := [.ref 0, .int q1.1, .retAddr 0, .retAddr 0, .retAddr 0, .retAddr 0, .retAddr 0, .retAddr 0, .retAddr 0, .retAddr 0]) rfl ?_
  refine xo_0 rfl ?_
  refine xo_8 ?_
  refine xo_61 (t := jm_b159_24) rfl (fun hc2 => ?_) (fun hc2 => ?_)
  · replace h := jw_pos hc2 h
    refine xo_2 rfl ?_
    refine xc_33 (i := 4) (q := 14) hS ly0 rfl (xc_P hS (by decide)) ?_
    refine xo_2 rfl ?_
    refine xc_33 (i := 3) (q := 12) hS ly0 rfl (xc_P hS (by decide)) ?_
    refine xo_49 (st' := []) rfl rfl (xc_ly hS ly14) rfl (Nat.le_of_ble_eq_true rfl) ?_
    refine t_X2_note_12 hS ?_
    refine jw_mono (jw_bind h) (fun q3 h => ?_)
    show jx_Ex _ _ _ _ [] (jh S q3.2) _
    refine xo_2 rfl ?_
    refine xc_33 (i := 0) (q := 1) hS ly0 rfl (xc_P hS (by decide)) ?_
    refine xo_9 ?_
    refine xo_49 (st' := []) rfl rfl (xc_ly hS ly1) rfl (Nat.le_of_ble_eq_true rfl) ?_
    refine t_X9_open hS ?_
    refine jw_mono (jw_bind h) (fun q4 h => ?_)
    show jx_Ex _ _ _ _ [] (jh S q4.2) _
    refine xo_8 ?_
    refine xo_4 (ls' := [.ref 0, .int q1.1, .int 0, .retAddr 0, .retAddr 0, .retAddr 0, .retAddr 0, .retAddr 0, .retAddr 0, .retAddr 0]) rfl ?_
    refine xo_8 ?_
    refine xo_4 (ls' := [.ref 0, .int q1.1, .int 0, .int 0, .retAddr 0, .retAddr 0, .retAddr 0, .retAddr 0, .retAddr 0, .retAddr 0]) rfl ?_
    refine xo_8 ?_
    refine xo_5 (ls' := [.ref 0, .int q1.1, .int 0, .int 0, .int 0, .retAddr 0, .retAddr 0, .retAddr 0, .retAddr 0, .retAddr 0]) rfl ?_
    refine xo_8 ?_
    refine xo_5 (ls' := [.ref 0, .int q1.1, .int 0, .int 0, .int 0, .int 0, .retAddr 0, .retAddr 0, .retAddr 0, .retAddr 0]) rfl ?_
    exact t_X10_journey_b54 hS 1000 h
  · replace h := jw_neg hc2 h
    refine xo_2 rfl ?_
    refine xc_33 (i := 0) (q := 1) hS ly0 rfl (xc_P hS (by decide)) ?_
    refine xo_49 (st' := []) rfl rfl (xc_ly hS ly1) rfl (Nat.le_of_ble_eq_true rfl) ?_
    refine t_X9_clear hS ?_
    refine jw_mono (jw_bind h) (fun q5 h => ?_)
    show jx_Ex _ _ _ _ [] (jh S q5.2) _
    refine xo_8 ?_
    refine xo_0 rfl ?_
    refine xo_15 ?_
    replace h := jw_some h
    exact xo_69 h
/-- Standing.copy, at ['x.now', 'x.history.past[0]'] -/
def f_X8_copy_at12_16 (σ : jT) : Option (Int32 × jT) :=
  some (0, (gC σ 17 13 0 0 28))
theorem t_X8_copy_at12_16 {S : jS} (hS : jCok S) {d : Nat} {Q : Option Value → jx_H → Prop} {σ : jT} (h : jw (f_X8_copy_at12_16 σ) (fun q => Q none (jh S q.2))) : jx_Sp (d) 89 [.ref 12, .ref 16] (jh S σ) Q := by
  refine ⟨jm_i89, jm_at89, rfl, rfl, ?_⟩
  show jx_Ex _ jm_l89 jm_b89_0 [.ref 12, .ref 16] [] _ _
  unfold f_X8_copy_at12_16 at h
  refine xo_2 rfl ?_
  refine xc_33 (i := 1024) (q := 17) hS ly16 rfl (xc_P hS (by decide)) ?_
  refine xo_8 ?_
  refine xo_2 rfl ?_
  refine xc_33 (i := 768) (q := 13) hS ly12 rfl (xc_P hS (by decide)) ?_
  refine xo_8 ?_
  refine xo_9 ?_
  refine xc_53 (sp' := 0) (dp' := 0) (n' := 28) hS ly17 ly13 ⟨Nat.le_of_ble_eq_true rfl, Nat.le_of_ble_eq_true rfl⟩ ⟨Nat.le_of_ble_eq_true rfl, Nat.le_of_ble_eq_true rfl⟩ (by decide) (by decide) (by decide) (by decide) (by decide) (by decide) (Nat.le_of_ble_eq_true rfl) ?_
  replace h := jw_some h
  exact xo_71 h
/-- Standing.copy, at ['x.now', 'x.history.past[1]'] -/
def f_X8_copy_at12_18 (σ : jT) : Option (Int32 × jT) :=
  some (0, (gC σ 19 13 0 0 28))
theorem t_X8_copy_at12_18 {S : jS} (hS : jCok S) {d : Nat} {Q : Option Value → jx_H → Prop} {σ : jT} (h : jw (f_X8_copy_at12_18 σ) (fun q => Q none (jh S q.2))) : jx_Sp (d) 89 [.ref 12, .ref 18] (jh S σ) Q := by
  refine ⟨jm_i89, jm_at89, rfl, rfl, ?_⟩
  show jx_Ex _ jm_l89 jm_b89_0 [.ref 12, .ref 18] [] _ _
  unfold f_X8_copy_at12_18 at h
  refine xo_2 rfl ?_
  refine xc_33 (i := 1152) (q := 19) hS ly18 rfl (xc_P hS (by decide)) ?_
  refine xo_8 ?_
  refine xo_2 rfl ?_
  refine xc_33 (i := 768) (q := 13) hS ly12 rfl (xc_P hS (by decide)) ?_
  refine xo_8 ?_
  refine xo_9 ?_
  refine xc_53 (sp' := 0) (dp' := 0) (n' := 28) hS ly19 ly13 ⟨Nat.le_of_ble_eq_true rfl, Nat.le_of_ble_eq_true rfl⟩ ⟨Nat.le_of_ble_eq_true rfl, Nat.le_of_ble_eq_true rfl⟩ (by decide) (by decide) (by decide) (by decide) (by decide) (by decide) (Nat.le_of_ble_eq_true rfl) ?_
  replace h := jw_some h
  exact xo_71 h
/-- Standing.copy, at ['x.now', 'x.history.past[2]'] -/
def f_X8_copy_at12_20 (σ : jT) : Option (Int32 × jT) :=
  some (0, (gC σ 21 13 0 0 28))
theorem t_X8_copy_at12_20 {S : jS} (hS : jCok S) {d : Nat} {Q : Option Value → jx_H → Prop} {σ : jT} (h : jw (f_X8_copy_at12_20 σ) (fun q => Q none (jh S q.2))) : jx_Sp (d) 89 [.ref 12, .ref 20] (jh S σ) Q := by
  refine ⟨jm_i89, jm_at89, rfl, rfl, ?_⟩
  show jx_Ex _ jm_l89 jm_b89_0 [.ref 12, .ref 20] [] _ _
  unfold f_X8_copy_at12_20 at h
  refine xo_2 rfl ?_
  refine xc_33 (i := 1280) (q := 21) hS ly20 rfl (xc_P hS (by decide)) ?_
  refine xo_8 ?_
  refine xo_2 rfl ?_
  refine xc_33 (i := 768) (q := 13) hS ly12 rfl (xc_P hS (by decide)) ?_
  refine xo_8 ?_
  refine xo_9 ?_
  refine xc_53 (sp' := 0) (dp' := 0) (n' := 28) hS ly21 ly13 ⟨Nat.le_of_ble_eq_true rfl, Nat.le_of_ble_eq_true rfl⟩ ⟨Nat.le_of_ble_eq_true rfl, Nat.le_of_ble_eq_true rfl⟩ (by decide) (by decide) (by decide) (by decide) (by decide) (by decide) (Nat.le_of_ble_eq_true rfl) ?_
  replace h := jw_some h
  exact xo_71 h
/-- Standing.copy, at ['x.now', 'x.history.past[3]'] -/
def f_X8_copy_at12_22 (σ : jT) : Option (Int32 × jT) :=
  some (0, (gC σ 23 13 0 0 28))
theorem t_X8_copy_at12_22 {S : jS} (hS : jCok S) {d : Nat} {Q : Option Value → jx_H → Prop} {σ : jT} (h : jw (f_X8_copy_at12_22 σ) (fun q => Q none (jh S q.2))) : jx_Sp (d) 89 [.ref 12, .ref 22] (jh S σ) Q := by
  refine ⟨jm_i89, jm_at89, rfl, rfl, ?_⟩
  show jx_Ex _ jm_l89 jm_b89_0 [.ref 12, .ref 22] [] _ _
  unfold f_X8_copy_at12_22 at h
  refine xo_2 rfl ?_
  refine xc_33 (i := 1408) (q := 23) hS ly22 rfl (xc_P hS (by decide)) ?_
  refine xo_8 ?_
  refine xo_2 rfl ?_
  refine xc_33 (i := 768) (q := 13) hS ly12 rfl (xc_P hS (by decide)) ?_
  refine xo_8 ?_
  refine xo_9 ?_
  refine xc_53 (sp' := 0) (dp' := 0) (n' := 28) hS ly23 ly13 ⟨Nat.le_of_ble_eq_true rfl, Nat.le_of_ble_eq_true rfl⟩ ⟨Nat.le_of_ble_eq_true rfl, Nat.le_of_ble_eq_true rfl⟩ (by decide) (by decide) (by decide) (by decide) (by decide) (by decide) (Nat.le_of_ble_eq_true rfl) ?_
  replace h := jw_some h
  exact xo_71 h
/-- Standing.copy, at ['x.now', 'x.history.past[4]'] -/
def f_X8_copy_at12_24 (σ : jT) : Option (Int32 × jT) :=
  some (0, (gC σ 25 13 0 0 28))
theorem t_X8_copy_at12_24 {S : jS} (hS : jCok S) {d : Nat} {Q : Option Value → jx_H → Prop} {σ : jT} (h : jw (f_X8_copy_at12_24 σ) (fun q => Q none (jh S q.2))) : jx_Sp (d) 89 [.ref 12, .ref 24] (jh S σ) Q := by
  refine ⟨jm_i89, jm_at89, rfl, rfl, ?_⟩
  show jx_Ex _ jm_l89 jm_b89_0 [.ref 12, .ref 24] [] _ _
  unfold f_X8_copy_at12_24 at h
  refine xo_2 rfl ?_
  refine xc_33 (i := 1536) (q := 25) hS ly24 rfl (xc_P hS (by decide)) ?_
  refine xo_8 ?_
  refine xo_2 rfl ?_
  refine xc_33 (i := 768) (q := 13) hS ly12 rfl (xc_P hS (by decide)) ?_
  refine xo_8 ?_
  refine xo_9 ?_
  refine xc_53 (sp' := 0) (dp' := 0) (n' := 28) hS ly25 ly13 ⟨Nat.le_of_ble_eq_true rfl, Nat.le_of_ble_eq_true rfl⟩ ⟨Nat.le_of_ble_eq_true rfl, Nat.le_of_ble_eq_true rfl⟩ (by decide) (by decide) (by decide) (by decide) (by decide) (by decide) (Nat.le_of_ble_eq_true rfl) ?_
  replace h := jw_some h
  exact xo_71 h
/-- Standing.copy, at ['x.now', 'x.history.past[5]'] -/
def f_X8_copy_at12_26 (σ : jT) : Option (Int32 × jT) :=
  some (0, (gC σ 27 13 0 0 28))
theorem t_X8_copy_at12_26 {S : jS} (hS : jCok S) {d : Nat} {Q : Option Value → jx_H → Prop} {σ : jT} (h : jw (f_X8_copy_at12_26 σ) (fun q => Q none (jh S q.2))) : jx_Sp (d) 89 [.ref 12, .ref 26] (jh S σ) Q := by
  refine ⟨jm_i89, jm_at89, rfl, rfl, ?_⟩
  show jx_Ex _ jm_l89 jm_b89_0 [.ref 12, .ref 26] [] _ _
  unfold f_X8_copy_at12_26 at h
  refine xo_2 rfl ?_
  refine xc_33 (i := 1664) (q := 27) hS ly26 rfl (xc_P hS (by decide)) ?_
  refine xo_8 ?_
  refine xo_2 rfl ?_
  refine xc_33 (i := 768) (q := 13) hS ly12 rfl (xc_P hS (by decide)) ?_
  refine xo_8 ?_
  refine xo_9 ?_
  refine xc_53 (sp' := 0) (dp' := 0) (n' := 28) hS ly27 ly13 ⟨Nat.le_of_ble_eq_true rfl, Nat.le_of_ble_eq_true rfl⟩ ⟨Nat.le_of_ble_eq_true rfl, Nat.le_of_ble_eq_true rfl⟩ (by decide) (by decide) (by decide) (by decide) (by decide) (by decide) (Nat.le_of_ble_eq_true rfl) ?_
  replace h := jw_some h
  exact xo_71 h
/-- Standing.copy, at ['x.now', 'x.history.past[6]'] -/
def f_X8_copy_at12_28 (σ : jT) : Option (Int32 × jT) :=
  some (0, (gC σ 29 13 0 0 28))
theorem t_X8_copy_at12_28 {S : jS} (hS : jCok S) {d : Nat} {Q : Option Value → jx_H → Prop} {σ : jT} (h : jw (f_X8_copy_at12_28 σ) (fun q => Q none (jh S q.2))) : jx_Sp (d) 89 [.ref 12, .ref 28] (jh S σ) Q := by
  refine ⟨jm_i89, jm_at89, rfl, rfl, ?_⟩
  show jx_Ex _ jm_l89 jm_b89_0 [.ref 12, .ref 28] [] _ _
  unfold f_X8_copy_at12_28 at h
  refine xo_2 rfl ?_
  refine xc_33 (i := 1792) (q := 29) hS ly28 rfl (xc_P hS (by decide)) ?_
  refine xo_8 ?_
  refine xo_2 rfl ?_
  refine xc_33 (i := 768) (q := 13) hS ly12 rfl (xc_P hS (by decide)) ?_
  refine xo_8 ?_
  refine xo_9 ?_
  refine xc_53 (sp' := 0) (dp' := 0) (n' := 28) hS ly29 ly13 ⟨Nat.le_of_ble_eq_true rfl, Nat.le_of_ble_eq_true rfl⟩ ⟨Nat.le_of_ble_eq_true rfl, Nat.le_of_ble_eq_true rfl⟩ (by decide) (by decide) (by decide) (by decide) (by decide) (by decide) (Nat.le_of_ble_eq_true rfl) ?_
  replace h := jw_some h
  exact xo_71 h
/-- Standing.copy, at ['x.now', 'x.history.past[7]'] -/
def f_X8_copy_at12_30 (σ : jT) : Option (Int32 × jT) :=
  some (0, (gC σ 31 13 0 0 28))
theorem t_X8_copy_at12_30 {S : jS} (hS : jCok S) {d : Nat} {Q : Option Value → jx_H → Prop} {σ : jT} (h : jw (f_X8_copy_at12_30 σ) (fun q => Q none (jh S q.2))) : jx_Sp (d) 89 [.ref 12, .ref 30] (jh S σ) Q := by
  refine ⟨jm_i89, jm_at89, rfl, rfl, ?_⟩
  show jx_Ex _ jm_l89 jm_b89_0 [.ref 12, .ref 30] [] _ _
  unfold f_X8_copy_at12_30 at h
  refine xo_2 rfl ?_
  refine xc_33 (i := 1920) (q := 31) hS ly30 rfl (xc_P hS (by decide)) ?_
  refine xo_8 ?_
  refine xo_2 rfl ?_
  refine xc_33 (i := 768) (q := 13) hS ly12 rfl (xc_P hS (by decide)) ?_
  refine xo_8 ?_
  refine xo_9 ?_
  refine xc_53 (sp' := 0) (dp' := 0) (n' := 28) hS ly31 ly13 ⟨Nat.le_of_ble_eq_true rfl, Nat.le_of_ble_eq_true rfl⟩ ⟨Nat.le_of_ble_eq_true rfl, Nat.le_of_ble_eq_true rfl⟩ (by decide) (by decide) (by decide) (by decide) (by decide) (by decide) (Nat.le_of_ble_eq_true rfl) ?_
  replace h := jw_some h
  exact xo_71 h
/-- Standing.copy, at ['x.now', 'x.history.past[8]'] -/
def f_X8_copy_at12_32 (σ : jT) : Option (Int32 × jT) :=
  some (0, (gC σ 33 13 0 0 28))
theorem t_X8_copy_at12_32 {S : jS} (hS : jCok S) {d : Nat} {Q : Option Value → jx_H → Prop} {σ : jT} (h : jw (f_X8_copy_at12_32 σ) (fun q => Q none (jh S q.2))) : jx_Sp (d) 89 [.ref 12, .ref 32] (jh S σ) Q := by
  refine ⟨jm_i89, jm_at89, rfl, rfl, ?_⟩
  show jx_Ex _ jm_l89 jm_b89_0 [.ref 12, .ref 32] [] _ _
  unfold f_X8_copy_at12_32 at h
  refine xo_2 rfl ?_
  refine xc_33 (i := 2048) (q := 33) hS ly32 rfl (xc_P hS (by decide)) ?_
  refine xo_8 ?_
  refine xo_2 rfl ?_
  refine xc_33 (i := 768) (q := 13) hS ly12 rfl (xc_P hS (by decide)) ?_
  refine xo_8 ?_
  refine xo_9 ?_
  refine xc_53 (sp' := 0) (dp' := 0) (n' := 28) hS ly33 ly13 ⟨Nat.le_of_ble_eq_true rfl, Nat.le_of_ble_eq_true rfl⟩ ⟨Nat.le_of_ble_eq_true rfl, Nat.le_of_ble_eq_true rfl⟩ (by decide) (by decide) (by decide) (by decide) (by decide) (by decide) (Nat.le_of_ble_eq_true rfl) ?_
  replace h := jw_some h
  exact xo_71 h
/-- Standing.copy, at ['x.now', 'x.history.past[9]'] -/
def f_X8_copy_at12_34 (σ : jT) : Option (Int32 × jT) :=
  some (0, (gC σ 35 13 0 0 28))
theorem t_X8_copy_at12_34 {S : jS} (hS : jCok S) {d : Nat} {Q : Option Value → jx_H → Prop} {σ : jT} (h : jw (f_X8_copy_at12_34 σ) (fun q => Q none (jh S q.2))) : jx_Sp (d) 89 [.ref 12, .ref 34] (jh S σ) Q := by
  refine ⟨jm_i89, jm_at89, rfl, rfl, ?_⟩
  show jx_Ex _ jm_l89 jm_b89_0 [.ref 12, .ref 34] [] _ _
  unfold f_X8_copy_at12_34 at h
  refine xo_2 rfl ?_
  refine xc_33 (i := 2176) (q := 35) hS ly34 rfl (xc_P hS (by decide)) ?_
  refine xo_8 ?_
  refine xo_2 rfl ?_
  refine xc_33 (i := 768) (q := 13) hS ly12 rfl (xc_P hS (by decide)) ?_
  refine xo_8 ?_
  refine xo_9 ?_
  refine xc_53 (sp' := 0) (dp' := 0) (n' := 28) hS ly35 ly13 ⟨Nat.le_of_ble_eq_true rfl, Nat.le_of_ble_eq_true rfl⟩ ⟨Nat.le_of_ble_eq_true rfl, Nat.le_of_ble_eq_true rfl⟩ (by decide) (by decide) (by decide) (by decide) (by decide) (by decide) (Nat.le_of_ble_eq_true rfl) ?_
  replace h := jw_some h
  exact xo_71 h
/-- Standing.copy, at ['x.now', 'x.history.past[10]'] -/
def f_X8_copy_at12_36 (σ : jT) : Option (Int32 × jT) :=
  some (0, (gC σ 37 13 0 0 28))
theorem t_X8_copy_at12_36 {S : jS} (hS : jCok S) {d : Nat} {Q : Option Value → jx_H → Prop} {σ : jT} (h : jw (f_X8_copy_at12_36 σ) (fun q => Q none (jh S q.2))) : jx_Sp (d) 89 [.ref 12, .ref 36] (jh S σ) Q := by
  refine ⟨jm_i89, jm_at89, rfl, rfl, ?_⟩
  show jx_Ex _ jm_l89 jm_b89_0 [.ref 12, .ref 36] [] _ _
  unfold f_X8_copy_at12_36 at h
  refine xo_2 rfl ?_
  refine xc_33 (i := 2304) (q := 37) hS ly36 rfl (xc_P hS (by decide)) ?_
  refine xo_8 ?_
  refine xo_2 rfl ?_
  refine xc_33 (i := 768) (q := 13) hS ly12 rfl (xc_P hS (by decide)) ?_
  refine xo_8 ?_
  refine xo_9 ?_
  refine xc_53 (sp' := 0) (dp' := 0) (n' := 28) hS ly37 ly13 ⟨Nat.le_of_ble_eq_true rfl, Nat.le_of_ble_eq_true rfl⟩ ⟨Nat.le_of_ble_eq_true rfl, Nat.le_of_ble_eq_true rfl⟩ (by decide) (by decide) (by decide) (by decide) (by decide) (by decide) (Nat.le_of_ble_eq_true rfl) ?_
  replace h := jw_some h
  exact xo_71 h
