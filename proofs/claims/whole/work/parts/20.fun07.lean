/-! ===== methods as functions ===== -/
/-- Atlas.tellRides, at ['x.atlas', 'int', 'x.told'] -/
def f_X0_tellRides_47_b78 (k20 : Int32 → Int32 → Int32 → jT → Option (Int32 × jT)) (x3 : Int32) (x4 : Int32) (x5 : Int32) (σ : jT) : Option (Int32 × jT) :=
  k20 x3 x4 (x5 + 1) σ
def f_X0_tellRides_47_b20 : Nat → Int32 → Int32 → Int32 → jT → Option (Int32 × jT)
  | 0, _, _, _, _ => none
  | n + 1, x3, x4, x5, σ =>
    if x4 ≤ x5 then
      some (0, σ)
    else
      (f_X0_farOf x3 σ).bind fun q2 =>
      (f_X0_pairTo x3 (q2.1 - 1) q2.2).bind fun q3 =>
      if q3.1 = (-1) then
        f_X0_tellRides_47_b78 (f_X0_tellRides_47_b20 n) x3 x4 x5 q3.2
      else
        (f_X6_put (q3.1 / 6) q3.2).bind fun q5 =>
        (f_X6_put (q3.1 - q3.1 / 6 * 6) q5.2).bind fun q6 =>
        if jx_in ((x3 * 36) + q3.1) 360 then
        f_X0_tellRides_47_b78 (f_X0_tellRides_47_b20 n) (q6.2.2 56 ((x3 * 36) + q3.1).toNatClampNeg) x4 x5 q6.2
        else none
def f_X0_tellRides_47 (x1 : Int32) (σ : jT) : Option (Int32 × jT) :=
  (f_X6_clear σ).bind fun q1 =>
  (f_X0_farOf x1 q1.2).bind fun q2 =>
  f_X0_tellRides_47_b20 1000 x1 (jx_min q2.1 5) 0 q2.2
theorem t_X0_tellRides_47_b78 {S : jS} (hS : jCok S) {d : Nat} {Q : Option Value → jx_H → Prop} {k20 : Int32 → Int32 → Int32 → jT → Option (Int32 × jT)} (hk20 : ∀ {x3 : Int32} {x4 : Int32} {x5 : Int32} {w1 : Value} {w6 : Value} {σ : jT}, jw (k20 x3 x4 x5 σ) (fun q => Q none (jh S q.2)) → jx_Ex (d + 3) jm_l7 jm_b7_20 [.ref 55, w1, .ref 47, .int x3, .int x4, .int x5, w6] [] (jh S σ) Q) {x3 : Int32} {x4 : Int32} {x5 : Int32} {w1 : Value} {w6 : Value} {σ : jT} (h : jw (f_X0_tellRides_47_b78 k20 x3 x4 x5 σ) (fun q => Q none (jh S q.2))) : jx_Ex (d + 3) jm_l7 jm_b7_78 [.ref 55, w1, .ref 47, .int x3, .int x4, .int x5, w6] [] (jh S σ) Q := by
  unfold f_X0_tellRides_47_b78 at h
  refine xo_13 (ls' := [.ref 55, w1, .ref 47, .int x3, .int x4, .int (x5 + 1), w6]) rfl rfl ?_
  refine xo_54 (t := jm_b7_20) rfl ?_
  exact hk20 h
theorem t_X0_tellRides_47_b20 {S : jS} (hS : jCok S) {d : Nat} {Q : Option Value → jx_H → Prop} : ∀ (n : Nat) {x3 : Int32} {x4 : Int32} {x5 : Int32} {w1 : Value} {w6 : Value} {σ : jT}, jw (f_X0_tellRides_47_b20 n x3 x4 x5 σ) (fun q => Q none (jh S q.2)) → jx_Ex (d + 3) jm_l7 jm_b7_20 [.ref 55, w1, .ref 47, .int x3, .int x4, .int x5, w6] [] (jh S σ) Q := by
  intro n
  induction n with
  | zero => intro x3 x4 x5 w1 w6 σ h; exact jw_none h
  | succ n ih =>
    intro x3 x4 x5 w1 w6 σ h
    rw [f_X0_tellRides_47_b20] at h
    refine xo_1 rfl ?_
    refine xo_1 rfl ?_
    refine xo_64 (t := jm_b7_84) rfl (fun hc1 => ?_) (fun hc1 => ?_)
    · replace h := jw_pos hc1 h
      replace h := jw_some h
      exact xo_71 h
    · replace h := jw_neg hc1 h
      refine xo_2 rfl ?_
      refine xo_0 rfl ?_
      refine xo_2 rfl ?_
      refine xo_0 rfl ?_
      refine xo_49 (st' := [.int x3, .ref 55]) rfl rfl (xc_ly hS ly55) rfl (Nat.le_of_ble_eq_true rfl) ?_
      refine t_X0_farOf hS ?_
      refine jw_mono (jw_bind h) (fun q2 h => ?_)
      show jx_Ex _ _ _ _ [.int q2.1, .int x3, .ref 55] (jh S q2.2) _
      refine xo_8 ?_
      refine xo_15 ?_
      refine xo_49 (st' := []) rfl rfl (xc_ly hS ly55) rfl (Nat.le_of_ble_eq_true rfl) ?_
      refine t_X0_pairTo hS ?_
      refine jw_mono (jw_bind h) (fun q3 h => ?_)
      show jx_Ex _ _ _ _ [.int q3.1] (jh S q3.2) _
      refine xo_5 (ls' := [.ref 55, w1, .ref 47, .int x3, .int x4, .int x5, .int q3.1]) rfl ?_
      refine xo_1 rfl ?_
      refine xo_8 ?_
      refine xo_61 (t := jm_b7_78) rfl (fun hc4 => ?_) (fun hc4 => ?_)
      · replace h := jw_pos hc4 h
        exact t_X0_tellRides_47_b78 hS ih h
      · replace h := jw_neg hc4 h
        refine xo_2 rfl ?_
        refine xo_1 rfl ?_
        refine xo_9 ?_
        refine xo_17 (by decide) ?_
        refine xo_49 (st' := []) rfl rfl (xc_ly hS ly47) rfl (Nat.le_of_ble_eq_true rfl) ?_
        refine t_X6_put hS ?_
        refine jw_mono (jw_bind h) (fun q5 h => ?_)
        show jx_Ex _ _ _ _ [] (jh S q5.2) _
        refine xo_2 rfl ?_
        refine xo_1 rfl ?_
        refine xo_9 ?_
        refine xo_18 (by decide) ?_
        refine xo_49 (st' := []) rfl rfl (xc_ly hS ly47) rfl (Nat.le_of_ble_eq_true rfl) ?_
        refine t_X6_put hS ?_
        refine jw_mono (jw_bind h) (fun q6 h => ?_)
        show jx_Ex _ _ _ _ [] (jh S q6.2) _
        refine xo_2 rfl ?_
        refine xc_33 (i := 3522) (q := 56) hS ly55 rfl (xc_P hS (by decide)) ?_
        refine xo_0 rfl ?_
        refine xo_9 ?_
        refine xo_16 ?_
        refine xo_1 rfl ?_
        refine xo_14 ?_
        obtain ⟨hi7, h⟩ := jw_chk h
        refine xc_38 (j := ((x3 * 36) + q3.1).toNatClampNeg) (v := (q6.2.2 56 ((x3 * 36) + q3.1).toNatClampNeg)) hS ly56 ⟨Nat.le_of_ble_eq_true rfl, Nat.le_of_ble_eq_true rfl⟩ hi7 rfl rfl ?_
        refine xo_4 (ls' := [.ref 55, w1, .ref 47, .int (q6.2.2 56 ((x3 * 36) + q3.1).toNatClampNeg), .int x4, .int x5, .int q3.1]) rfl ?_
        exact t_X0_tellRides_47_b78 hS ih h
theorem t_X0_tellRides_47 {S : jS} (hS : jCok S) {d : Nat} {Q : Option Value → jx_H → Prop} {x1 : Int32} {σ : jT} (h : jw (f_X0_tellRides_47 x1 σ) (fun q => Q none (jh S q.2))) : jx_Sp (d + 3) 7 [.ref 55, .int x1, .ref 47] (jh S σ) Q := by
  refine ⟨jm_i7, jm_at7, rfl, rfl, ?_⟩
  show jx_Ex _ jm_l7 jm_b7_0 [.ref 55, .int x1, .ref 47, .retAddr 0, .retAddr 0, .retAddr 0, .retAddr 0] [] _ _
  unfold f_X0_tellRides_47 at h
  refine xo_2 rfl ?_
  refine xo_49 (st' := []) rfl rfl (xc_ly hS ly47) rfl (Nat.le_of_ble_eq_true rfl) ?_
  refine t_X6_clear hS ?_
  refine jw_mono (jw_bind h) (fun q1 h => ?_)
  show jx_Ex _ _ _ _ [] (jh S q1.2) _
  refine xo_0 rfl ?_
  refine xo_4 (ls' := [.ref 55, .int x1, .ref 47, .int x1, .retAddr 0, .retAddr 0, .retAddr 0]) rfl ?_
  refine xo_2 rfl ?_
  refine xo_0 rfl ?_
  refine xo_49 (st' := []) rfl rfl (xc_ly hS ly55) rfl (Nat.le_of_ble_eq_true rfl) ?_
  refine t_X0_farOf hS ?_
  refine jw_mono (jw_bind h) (fun q2 h => ?_)
  show jx_Ex _ _ _ _ [.int q2.1] (jh S q2.2) _
  refine xo_8 ?_
  refine xo_73 (Nat.le_of_ble_eq_true rfl) ?_
  refine xo_5 (ls' := [.ref 55, .int x1, .ref 47, .int x1, .int (jx_min q2.1 5), .retAddr 0, .retAddr 0]) rfl ?_
  refine xo_8 ?_
  refine xo_5 (ls' := [.ref 55, .int x1, .ref 47, .int x1, .int (jx_min q2.1 5), .int 0, .retAddr 0]) rfl ?_
  exact t_X0_tellRides_47_b20 hS 1000 h
/-- OfDifferentMinds.changes, at ['x', 'int', 'int'] -/
def f_X10_changes (x1 : Int32) (x2 : Int32) (σ : jT) : Option (Int32 × jT) :=
  (f_X3_hasPlace x1 σ).bind fun q1 =>
  if q1.1 = 0 then
    some ((-1), q1.2)
  else
    (f_X3_hasPlace x2 q1.2).bind fun q3 =>
    if ¬ q3.1 = 0 then
      (f_X0_survey x1 q3.2).bind fun q5 =>
      (f_X0_fewest x1 x2 0 q5.2).bind fun q6 =>
      if ¬ q6.1 = (-1) then
        (f_X0_tellRides_47 x1 q6.2).bind fun q8 =>
        some (q6.1, q8.2)
      else
        some ((-2), q6.2)
    else
      some ((-1), q3.2)
theorem t_X10_changes {S : jS} (hS : jCok S) {d : Nat} {Q : Option Value → jx_H → Prop} {x1 : Int32} {x2 : Int32} {σ : jT} (h : jw (f_X10_changes x1 x2 σ) (fun q => Q (some (.int q.1)) (jh S q.2))) : jx_Sp (d + 7) 170 [.ref 0, .int x1, .int x2] (jh S σ) Q := by
  refine ⟨jm_i170, jm_at170, rfl, rfl, ?_⟩
  show jx_Ex _ jm_l170 jm_b170_0 [.ref 0, .int x1, .int x2, .retAddr 0] [] _ _
  unfold f_X10_changes at h
  refine xo_2 rfl ?_
  refine xc_33 (i := 1) (q := 3) hS ly0 rfl (xc_P hS (by decide)) ?_
  refine xo_0 rfl ?_
  refine xo_49 (st' := []) rfl rfl (xc_ly hS ly3) rfl (Nat.le_of_ble_eq_true rfl) ?_
  refine t_X3_hasPlace hS ?_
  refine jw_mono (jw_bind h) (fun q1 h => ?_)
  show jx_Ex _ _ _ _ [.int q1.1] (jh S q1.2) _
  refine xo_55 (t := jm_b170_22) rfl (fun hc2 => ?_) (fun hc2 => ?_)
  · replace h := jw_pos hc2 h
    refine xo_8 ?_
    replace h := jw_some h
    exact xo_69 h
  · replace h := jw_neg hc2 h
    refine xo_2 rfl ?_
    refine xc_33 (i := 1) (q := 3) hS ly0 rfl (xc_P hS (by decide)) ?_
    refine xo_0 rfl ?_
    refine xo_49 (st' := []) rfl rfl (xc_ly hS ly3) rfl (Nat.le_of_ble_eq_true rfl) ?_
    refine t_X3_hasPlace hS ?_
    refine jw_mono (jw_bind h) (fun q3 h => ?_)
    show jx_Ex _ _ _ _ [.int q3.1] (jh S q3.2) _
    refine xo_56 (t := jm_b170_24) rfl (fun hc4 => ?_) (fun hc4 => ?_)
    · replace h := jw_pos hc4 h
      refine xo_2 rfl ?_
      refine xc_33 (i := 7) (q := 55) hS ly0 rfl (xc_P hS (by decide)) ?_
      refine xo_0 rfl ?_
      refine xo_49 (st' := []) rfl rfl (xc_ly hS ly55) rfl (Nat.le_of_ble_eq_true rfl) ?_
      refine t_X0_survey hS ?_
      refine jw_mono (jw_bind h) (fun q5 h => ?_)
      show jx_Ex _ _ _ _ [.int q5.1] (jh S q5.2) _
      refine xo_31 ?_
      refine xo_2 rfl ?_
      refine xc_33 (i := 7) (q := 55) hS ly0 rfl (xc_P hS (by decide)) ?_
      refine xo_0 rfl ?_
      refine xo_0 rfl ?_
      refine xo_8 ?_
      refine xo_49 (st' := []) rfl rfl (xc_ly hS ly55) rfl (Nat.le_of_ble_eq_true rfl) ?_
      refine t_X0_fewest hS ?_
      refine jw_mono (jw_bind h) (fun q6 h => ?_)
      show jx_Ex _ _ _ _ [.int q6.1] (jh S q6.2) _
      refine xo_4 (ls' := [.ref 0, .int x1, .int x2, .int q6.1]) rfl ?_
      refine xo_0 rfl ?_
      refine xo_8 ?_
      refine xo_62 (t := jm_b170_52) rfl (fun hc7 => ?_) (fun hc7 => ?_)
      · replace h := jw_pos hc7 h
        refine xo_2 rfl ?_
        refine xc_33 (i := 7) (q := 55) hS ly0 rfl (xc_P hS (by decide)) ?_
        refine xo_0 rfl ?_
        refine xo_2 rfl ?_
        refine xc_33 (i := 5) (q := 47) hS ly0 rfl (xc_P hS (by decide)) ?_
        refine xo_49 (st' := []) rfl rfl (xc_ly hS ly55) rfl (Nat.le_of_ble_eq_true rfl) ?_
        refine t_X0_tellRides_47 hS ?_
        refine jw_mono (jw_bind h) (fun q8 h => ?_)
        show jx_Ex _ _ _ _ [] (jh S q8.2) _
        refine xo_0 rfl ?_
        replace h := jw_some h
        exact xo_69 h
      · replace h := jw_neg hc7 h
        refine xo_9 ?_
        replace h := jw_some h
        exact xo_69 h
    · replace h := jw_neg hc4 h
      refine xo_8 ?_
      replace h := jw_some h
      exact xo_69 h
/-- OfDifferentMinds.stations, at ['x', 'int'] -/
def f_X10_stations (x1 : Int32) (σ : jT) : Option (Int32 × jT) :=
  (f_X3_hasPlace x1 σ).bind fun q1 =>
  if ¬ q1.1 = 0 then
    (f_X0_survey x1 q1.2).bind fun q3 =>
    (f_X3_inns q3.2).bind fun q4 =>
    (f_X6_tell (q3.1 &&& (q4.1 ^^^ (-1))) q4.2).bind fun q5 =>
    some (q3.1, q5.2)
  else
    some ((-1), q1.2)
theorem t_X10_stations {S : jS} (hS : jCok S) {d : Nat} {Q : Option Value → jx_H → Prop} {x1 : Int32} {σ : jT} (h : jw (f_X10_stations x1 σ) (fun q => Q (some (.int q.1)) (jh S q.2))) : jx_Sp (d + 7) 171 [.ref 0, .int x1] (jh S σ) Q := by
  refine ⟨jm_i171, jm_at171, rfl, rfl, ?_⟩
  show jx_Ex _ jm_l171 jm_b171_0 [.ref 0, .int x1, .retAddr 0] [] _ _
  unfold f_X10_stations at h
  refine xo_2 rfl ?_
  refine xc_33 (i := 1) (q := 3) hS ly0 rfl (xc_P hS (by decide)) ?_
  refine xo_0 rfl ?_
  refine xo_49 (st' := []) rfl rfl (xc_ly hS ly3) rfl (Nat.le_of_ble_eq_true rfl) ?_
  refine t_X3_hasPlace hS ?_
  refine jw_mono (jw_bind h) (fun q1 h => ?_)
  show jx_Ex _ _ _ _ [.int q1.1] (jh S q1.2) _
  refine xo_56 (t := jm_b171_13) rfl (fun hc2 => ?_) (fun hc2 => ?_)
  · replace h := jw_pos hc2 h
    refine xo_2 rfl ?_
    refine xc_33 (i := 7) (q := 55) hS ly0 rfl (xc_P hS (by decide)) ?_
    refine xo_0 rfl ?_
    refine xo_49 (st' := []) rfl rfl (xc_ly hS ly55) rfl (Nat.le_of_ble_eq_true rfl) ?_
    refine t_X0_survey hS ?_
    refine jw_mono (jw_bind h) (fun q3 h => ?_)
    show jx_Ex _ _ _ _ [.int q3.1] (jh S q3.2) _
    refine xo_4 (ls' := [.ref 0, .int x1, .int q3.1]) rfl ?_
    refine xo_2 rfl ?_
    refine xc_33 (i := 5) (q := 47) hS ly0 rfl (xc_P hS (by decide)) ?_
    refine xo_0 rfl ?_
    refine xo_2 rfl ?_
    refine xc_33 (i := 1) (q := 3) hS ly0 rfl (xc_P hS (by decide)) ?_
    refine xo_49 (st' := [.int q3.1, .ref 47]) rfl rfl (xc_ly hS ly3) rfl (Nat.le_of_ble_eq_true rfl) ?_
    refine t_X3_inns hS ?_
    refine jw_mono (jw_bind h) (fun q4 h => ?_)
    show jx_Ex _ _ _ _ [.int q4.1, .int q3.1, .ref 47] (jh S q4.2) _
    refine xo_8 ?_
    refine xo_22 ?_
    refine xo_20 ?_
    refine xo_49 (st' := []) rfl rfl (xc_ly hS ly47) rfl (Nat.le_of_ble_eq_true rfl) ?_
    refine t_X6_tell hS ?_
    refine jw_mono (jw_bind h) (fun q5 h => ?_)
    show jx_Ex _ _ _ _ [] (jh S q5.2) _
    refine xo_0 rfl ?_
    replace h := jw_some h
    exact xo_69 h
  · replace h := jw_neg hc2 h
    refine xo_8 ?_
    replace h := jw_some h
    exact xo_69 h
/-- Atlas.tellWays, at ['x.atlas', 'int', 'x.told'] -/
def f_X0_tellWays_47_b16 : Nat → Int32 → Int32 → Int32 → jT → Option (Int32 × jT)
  | 0, _, _, _, _ => none
  | n + 1, x3, x4, x5, σ =>
    if x4 ≤ x5 then
      some (0, σ)
    else
      (f_X0_farOf x3 σ).bind fun q2 =>
      (f_X0_wayTo x3 (q2.1 - 1) q2.2).bind fun q3 =>
      (f_X6_put q3.1 q3.2).bind fun q4 =>
      (f_X3_leadsTo x3 q3.1 q4.2).bind fun q5 =>
      f_X0_tellWays_47_b16 n q5.1 x4 (x5 + 1) q5.2
def f_X0_tellWays_47 (x1 : Int32) (σ : jT) : Option (Int32 × jT) :=
  (f_X6_clear σ).bind fun q1 =>
  (f_X0_farOf x1 q1.2).bind fun q2 =>
  f_X0_tellWays_47_b16 1000 x1 q2.1 0 q2.2
theorem t_X0_tellWays_47_b16 {S : jS} (hS : jCok S) {d : Nat} {Q : Option Value → jx_H → Prop} : ∀ (n : Nat) {x3 : Int32} {x4 : Int32} {x5 : Int32} {w1 : Value} {w6 : Value} {σ : jT}, jw (f_X0_tellWays_47_b16 n x3 x4 x5 σ) (fun q => Q none (jh S q.2)) → jx_Ex (d + 3) jm_l9 jm_b9_16 [.ref 55, w1, .ref 47, .int x3, .int x4, .int x5, w6] [] (jh S σ) Q := by
  intro n
  induction n with
  | zero => intro x3 x4 x5 w1 w6 σ h; exact jw_none h
  | succ n ih =>
    intro x3 x4 x5 w1 w6 σ h
    rw [f_X0_tellWays_47_b16] at h
    refine xo_1 rfl ?_
    refine xo_1 rfl ?_
    refine xo_64 (t := jm_b9_60) rfl (fun hc1 => ?_) (fun hc1 => ?_)
    · replace h := jw_pos hc1 h
      replace h := jw_some h
      exact xo_71 h
    · replace h := jw_neg hc1 h
      refine xo_2 rfl ?_
      refine xo_0 rfl ?_
      refine xo_2 rfl ?_
      refine xo_0 rfl ?_
      refine xo_49 (st' := [.int x3, .ref 55]) rfl rfl (xc_ly hS ly55) rfl (Nat.le_of_ble_eq_true rfl) ?_
      refine t_X0_farOf hS ?_
      refine jw_mono (jw_bind h) (fun q2 h => ?_)
      show jx_Ex _ _ _ _ [.int q2.1, .int x3, .ref 55] (jh S q2.2) _
      refine xo_8 ?_
      refine xo_15 ?_
      refine xo_49 (st' := []) rfl rfl (xc_ly hS ly55) rfl (Nat.le_of_ble_eq_true rfl) ?_
      refine t_X0_wayTo hS ?_
      refine jw_mono (jw_bind h) (fun q3 h => ?_)
      show jx_Ex _ _ _ _ [.int q3.1] (jh S q3.2) _
      refine xo_5 (ls' := [.ref 55, w1, .ref 47, .int x3, .int x4, .int x5, .int q3.1]) rfl ?_
      refine xo_2 rfl ?_
      refine xo_1 rfl ?_
      refine xo_49 (st' := []) rfl rfl (xc_ly hS ly47) rfl (Nat.le_of_ble_eq_true rfl) ?_
      refine t_X6_put hS ?_
      refine jw_mono (jw_bind h) (fun q4 h => ?_)
      show jx_Ex _ _ _ _ [] (jh S q4.2) _
      refine xo_2 rfl ?_
      refine xc_33 (i := 3520) (q := 3) hS ly55 rfl (xc_P hS (by decide)) ?_
      refine xo_0 rfl ?_
      refine xo_1 rfl ?_
      refine xo_49 (st' := []) rfl rfl (xc_ly hS ly3) rfl (Nat.le_of_ble_eq_true rfl) ?_
      refine t_X3_leadsTo hS ?_
      refine jw_mono (jw_bind h) (fun q5 h => ?_)
      show jx_Ex _ _ _ _ [.int q5.1] (jh S q5.2) _
      refine xo_4 (ls' := [.ref 55, w1, .ref 47, .int q5.1, .int x4, .int x5, .int q3.1]) rfl ?_
      refine xo_13 (ls' := [.ref 55, w1, .ref 47, .int q5.1, .int x4, .int (x5 + 1), .int q3.1]) rfl rfl ?_
      refine xo_54 (t := jm_b9_16) rfl ?_
      exact ih h
theorem t_X0_tellWays_47 {S : jS} (hS : jCok S) {d : Nat} {Q : Option Value → jx_H → Prop} {x1 : Int32} {σ : jT} (h : jw (f_X0_tellWays_47 x1 σ) (fun q => Q none (jh S q.2))) : jx_Sp (d + 3) 9 [.ref 55, .int x1, .ref 47] (jh S σ) Q := by
  refine ⟨jm_i9, jm_at9, rfl, rfl, ?_⟩
  show jx_Ex _ jm_l9 jm_b9_0 [.ref 55, .int x1, .ref 47, .retAddr 0, .retAddr 0, .retAddr 0, .retAddr 0] [] _ _
  unfold f_X0_tellWays_47 at h
  refine xo_2 rfl ?_
  refine xo_49 (st' := []) rfl rfl (xc_ly hS ly47) rfl (Nat.le_of_ble_eq_true rfl) ?_
  refine t_X6_clear hS ?_
  refine jw_mono (jw_bind h) (fun q1 h => ?_)
  show jx_Ex _ _ _ _ [] (jh S q1.2) _
  refine xo_0 rfl ?_
  refine xo_4 (ls' := [.ref 55, .int x1, .ref 47, .int x1, .retAddr 0, .retAddr 0, .retAddr 0]) rfl ?_
  refine xo_2 rfl ?_
  refine xo_0 rfl ?_
  refine xo_49 (st' := []) rfl rfl (xc_ly hS ly55) rfl (Nat.le_of_ble_eq_true rfl) ?_
  refine t_X0_farOf hS ?_
  refine jw_mono (jw_bind h) (fun q2 h => ?_)
  show jx_Ex _ _ _ _ [.int q2.1] (jh S q2.2) _
  refine xo_5 (ls' := [.ref 55, .int x1, .ref 47, .int x1, .int q2.1, .retAddr 0, .retAddr 0]) rfl ?_
  refine xo_8 ?_
  refine xo_5 (ls' := [.ref 55, .int x1, .ref 47, .int x1, .int q2.1, .int 0, .retAddr 0]) rfl ?_
  exact t_X0_tellWays_47_b16 hS 1000 h
/-- OfDifferentMinds.foot, at ['x', 'int', 'int'] -/
def f_X10_foot (x1 : Int32) (x2 : Int32) (σ : jT) : Option (Int32 × jT) :=
  (f_X3_hasPlace x1 σ).bind fun q1 =>
  if q1.1 = 0 then
    some ((-1), q1.2)
  else
    (f_X3_hasPlace x2 q1.2).bind fun q3 =>
    if ¬ q3.1 = 0 then
      (f_X0_fewest x1 x2 1 q3.2).bind fun q5 =>
      if ¬ q5.1 = (-1) then
        (f_X0_tellWays_47 x1 q5.2).bind fun q7 =>
        some (q5.1, q7.2)
      else
        some ((-2), q5.2)
    else
      some ((-1), q3.2)
theorem t_X10_foot {S : jS} (hS : jCok S) {d : Nat} {Q : Option Value → jx_H → Prop} {x1 : Int32} {x2 : Int32} {σ : jT} (h : jw (f_X10_foot x1 x2 σ) (fun q => Q (some (.int q.1)) (jh S q.2))) : jx_Sp (d + 4) 172 [.ref 0, .int x1, .int x2] (jh S σ) Q := by
  refine ⟨jm_i172, jm_at172, rfl, rfl, ?_⟩
  show jx_Ex _ jm_l172 jm_b172_0 [.ref 0, .int x1, .int x2, .retAddr 0] [] _ _
  unfold f_X10_foot at h
  refine xo_2 rfl ?_
  refine xc_33 (i := 1) (q := 3) hS ly0 rfl (xc_P hS (by decide)) ?_
  refine xo_0 rfl ?_
  refine xo_49 (st' := []) rfl rfl (xc_ly hS ly3) rfl (Nat.le_of_ble_eq_true rfl) ?_
  refine t_X3_hasPlace hS ?_
  refine jw_mono (jw_bind h) (fun q1 h => ?_)
  show jx_Ex _ _ _ _ [.int q1.1] (jh S q1.2) _
  refine xo_55 (t := jm_b172_22) rfl (fun hc2 => ?_) (fun hc2 => ?_)
  · replace h := jw_pos hc2 h
    refine xo_8 ?_
    replace h := jw_some h
    exact xo_69 h
  · replace h := jw_neg hc2 h
    refine xo_2 rfl ?_
    refine xc_33 (i := 1) (q := 3) hS ly0 rfl (xc_P hS (by decide)) ?_
    refine xo_0 rfl ?_
    refine xo_49 (st' := []) rfl rfl (xc_ly hS ly3) rfl (Nat.le_of_ble_eq_true rfl) ?_
    refine t_X3_hasPlace hS ?_
    refine jw_mono (jw_bind h) (fun q3 h => ?_)
    show jx_Ex _ _ _ _ [.int q3.1] (jh S q3.2) _
    refine xo_56 (t := jm_b172_24) rfl (fun hc4 => ?_) (fun hc4 => ?_)
    · replace h := jw_pos hc4 h
      refine xo_2 rfl ?_
      refine xc_33 (i := 7) (q := 55) hS ly0 rfl (xc_P hS (by decide)) ?_
      refine xo_0 rfl ?_
      refine xo_0 rfl ?_
      refine xo_8 ?_
      refine xo_49 (st' := []) rfl rfl (xc_ly hS ly55) rfl (Nat.le_of_ble_eq_true rfl) ?_
      refine t_X0_fewest hS ?_
      refine jw_mono (jw_bind h) (fun q5 h => ?_)
      show jx_Ex _ _ _ _ [.int q5.1] (jh S q5.2) _
      refine xo_4 (ls' := [.ref 0, .int x1, .int x2, .int q5.1]) rfl ?_
      refine xo_0 rfl ?_
      refine xo_8 ?_
      refine xo_62 (t := jm_b172_43) rfl (fun hc6 => ?_) (fun hc6 => ?_)
      · replace h := jw_pos hc6 h
        refine xo_2 rfl ?_
        refine xc_33 (i := 7) (q := 55) hS ly0 rfl (xc_P hS (by decide)) ?_
        refine xo_0 rfl ?_
        refine xo_2 rfl ?_
        refine xc_33 (i := 5) (q := 47) hS ly0 rfl (xc_P hS (by decide)) ?_
        refine xo_49 (st' := []) rfl rfl (xc_ly hS ly55) rfl (Nat.le_of_ble_eq_true rfl) ?_
        refine t_X0_tellWays_47 hS ?_
        refine jw_mono (jw_bind h) (fun q7 h => ?_)
        show jx_Ex _ _ _ _ [] (jh S q7.2) _
        refine xo_0 rfl ?_
        replace h := jw_some h
        exact xo_69 h
      · replace h := jw_neg hc6 h
        refine xo_9 ?_
        replace h := jw_some h
        exact xo_69 h
    · replace h := jw_neg hc4 h
      refine xo_8 ?_
      replace h := jw_some h
      exact xo_69 h
/-- OfDifferentMinds.stepsOf, at ['x', 'int', 'int', 'int'] -/
def f_X10_stepsOf (x1 : Int32) (x2 : Int32) (x3 : Int32) (σ : jT) : Option (Int32 × jT) :=
  (f_X5_begin x1 x2 x3 σ).bind fun q1 =>
  (f_X5_go 200 q1.2).bind fun q2 =>
  (f_X5_taken q2.2).bind fun q3 =>
  some (q3.1, q3.2)
theorem t_X10_stepsOf {S : jS} (hS : jCok S) {d : Nat} {Q : Option Value → jx_H → Prop} {x1 : Int32} {x2 : Int32} {x3 : Int32} {σ : jT} (h : jw (f_X10_stepsOf x1 x2 x3 σ) (fun q => Q (some (.int q.1)) (jh S q.2))) : jx_Sp (d + 5) 173 [.ref 0, .int x1, .int x2, .int x3] (jh S σ) Q := by
  refine ⟨jm_i173, jm_at173, rfl, rfl, ?_⟩
  show jx_Ex _ jm_l173 jm_b173_0 [.ref 0, .int x1, .int x2, .int x3] [] _ _
  unfold f_X10_stepsOf at h
  refine xo_2 rfl ?_
  refine xc_33 (i := 6) (q := 49) hS ly0 rfl (xc_P hS (by decide)) ?_
  refine xo_0 rfl ?_
  refine xo_0 rfl ?_
  refine xo_0 rfl ?_
  refine xo_49 (st' := []) rfl rfl (xc_ly hS ly49) rfl (Nat.le_of_ble_eq_true rfl) ?_
  refine t_X5_begin hS ?_
  refine jw_mono (jw_bind h) (fun q1 h => ?_)
  show jx_Ex _ _ _ _ [] (jh S q1.2) _
  refine xo_2 rfl ?_
  refine xc_33 (i := 6) (q := 49) hS ly0 rfl (xc_P hS (by decide)) ?_
  refine xo_10 ?_
  refine xo_49 (st' := []) rfl rfl (xc_ly hS ly49) rfl (Nat.le_of_ble_eq_true rfl) ?_
  refine t_X5_go hS ?_
  refine jw_mono (jw_bind h) (fun q2 h => ?_)
  show jx_Ex _ _ _ _ [] (jh S q2.2) _
  refine xo_2 rfl ?_
  refine xc_33 (i := 6) (q := 49) hS ly0 rfl (xc_P hS (by decide)) ?_
  refine xo_49 (st' := []) rfl rfl (xc_ly hS ly49) rfl (Nat.le_of_ble_eq_true rfl) ?_
  refine t_X5_taken hS ?_
  refine jw_mono (jw_bind h) (fun q3 h => ?_)
  show jx_Ex _ _ _ _ [.int q3.1] (jh S q3.2) _
  replace h := jw_some h
  exact xo_69 h
/-- OfDifferentMinds.record, at ['x', 'int'] -/
def f_X10_record_b128 (k55 : Int32 → Int32 → Int32 → Int32 → Int32 → Int32 → Int32 → jT → Option (Int32 × jT)) (x1 : Int32) (x2 : Int32) (x3 : Int32) (x4 : Int32) (x6 : Int32) (x7 : Int32) (s0 : Int32) (s1 : Int32) (σ : jT) : Option (Int32 × jT) :=
  k55 x1 x2 x3 x4 (s1 + s0) x6 (x7 + 1) σ
def f_X10_record_b127 (k55 : Int32 → Int32 → Int32 → Int32 → Int32 → Int32 → Int32 → jT → Option (Int32 × jT)) (x1 : Int32) (x2 : Int32) (x3 : Int32) (x4 : Int32) (x6 : Int32) (x7 : Int32) (s0 : Int32) (σ : jT) : Option (Int32 × jT) :=
  f_X10_record_b128 k55 x1 x2 x3 x4 x6 x7 0 s0 σ
def f_X10_record_b108 (k55 : Int32 → Int32 → Int32 → Int32 → Int32 → Int32 → Int32 → jT → Option (Int32 × jT)) (x1 : Int32) (x2 : Int32) (x3 : Int32) (x4 : Int32) (x5 : Int32) (x6 : Int32) (x7 : Int32) (x8 : Int32) (σ : jT) : Option (Int32 × jT) :=
  if x6 = x7 then
    f_X10_record_b127 k55 x1 x2 x3 x4 x6 x7 x5 σ
  else
    if ¬ x8 = x2 then
      f_X10_record_b127 k55 x1 x2 x3 x4 x6 x7 x5 σ
    else
      f_X10_record_b128 k55 x1 x2 x3 x4 x6 x7 1 x5 σ
def f_X10_record_b87 (k55 : Int32 → Int32 → Int32 → Int32 → Int32 → Int32 → Int32 → jT → Option (Int32 × jT)) (x1 : Int32) (x2 : Int32) (x3 : Int32) (x4 : Int32) (x5 : Int32) (x6 : Int32) (x7 : Int32) (s0 : Int32) (σ : jT) : Option (Int32 × jT) :=
  if s0 ≤ x2 then
    f_X10_record_b108 k55 x1 x2 x3 x4 x5 x6 x7 s0 σ
  else
    f_X10_record_b108 k55 x1 s0 x6 x7 0 x6 x7 s0 σ
def f_X10_record_b55 (k40 : Int32 → Int32 → Int32 → Int32 → Int32 → Int32 → jT → Option (Int32 × jT)) : Nat → Int32 → Int32 → Int32 → Int32 → Int32 → Int32 → Int32 → jT → Option (Int32 × jT)
  | 0, _, _, _, _, _, _, _, _ => none
  | n + 1, x1, x2, x3, x4, x5, x6, x7, σ =>
    (f_X3_riderCount σ).bind fun q1 =>
    if q1.1 ≤ x7 then
      k40 x1 x2 x3 x4 x5 (x6 + 1) q1.2
    else
      if ¬ x6 = x7 then
        (f_X10_stepsOf x6 x7 x1 q1.2).bind fun q4 =>
        f_X10_record_b87 (f_X10_record_b55 k40 n) x1 x2 x3 x4 x5 x6 x7 q4.1 q4.2
      else
        f_X10_record_b87 (f_X10_record_b55 k40 n) x1 x2 x3 x4 x5 x6 x7 (-1) q1.2
def f_X10_record_b40 : Nat → Int32 → Int32 → Int32 → Int32 → Int32 → Int32 → jT → Option (Int32 × jT)
  | 0, _, _, _, _, _, _, _ => none
  | n + 1, x1, x2, x3, x4, x5, x6, σ =>
    (f_X3_riderCount σ).bind fun q1 =>
    if q1.1 ≤ x6 then
      (f_X6_tell__ x3 x4 x5 q1.2).bind fun q3 =>
      some (x2, q3.2)
    else
      f_X10_record_b55 (f_X10_record_b40 n) 1000 x1 x2 x3 x4 x5 x6 0 q1.2
def f_X10_record (x1 : Int32) (σ : jT) : Option (Int32 × jT) :=
  (f_X3_hasPlace x1 σ).bind fun q1 =>
  if ¬ q1.1 = 0 then
    (f_X3_riderCount q1.2).bind fun q3 =>
    if 2 ≤ q3.1 then
      f_X10_record_b40 1000 x1 (-1) (-1) (-1) 0 0 q3.2
    else
      some ((-2), q3.2)
  else
    some ((-1), q1.2)
theorem t_X10_record_b128 {S : jS} (hS : jCok S) {d : Nat} {Q : Option Value → jx_H → Prop} {k55 : Int32 → Int32 → Int32 → Int32 → Int32 → Int32 → Int32 → jT → Option (Int32 × jT)} (hk55 : ∀ {x1 : Int32} {x2 : Int32} {x3 : Int32} {x4 : Int32} {x5 : Int32} {x6 : Int32} {x7 : Int32} {w8 : Value} {σ : jT}, jw (k55 x1 x2 x3 x4 x5 x6 x7 σ) (fun q => Q (some (.int q.1)) (jh S q.2)) → jx_Ex (d + 6) jm_l174 jm_b174_55 [.ref 0, .int x1, .int x2, .int x3, .int x4, .int x5, .int x6, .int x7, w8] [] (jh S σ) Q) {x1 : Int32} {x2 : Int32} {x3 : Int32} {x4 : Int32} {x6 : Int32} {x7 : Int32} {s0 : Int32} {s1 : Int32} {w5 : Value} {w8 : Value} {σ : jT} (h : jw (f_X10_record_b128 k55 x1 x2 x3 x4 x6 x7 s0 s1 σ) (fun q => Q (some (.int q.1)) (jh S q.2))) : jx_Ex (d + 6) jm_l174 jm_b174_128 [.ref 0, .int x1, .int x2, .int x3, .int x4, w5, .int x6, .int x7, w8] [.int s0, .int s1] (jh S σ) Q := by
  unfold f_X10_record_b128 at h
  refine xo_14 ?_
  refine xo_5 (ls' := [.ref 0, .int x1, .int x2, .int x3, .int x4, .int (s1 + s0), .int x6, .int x7, w8]) rfl ?_
  refine xo_13 (ls' := [.ref 0, .int x1, .int x2, .int x3, .int x4, .int (s1 + s0), .int x6, .int (x7 + 1), w8]) rfl rfl ?_
  refine xo_54 (t := jm_b174_55) rfl ?_
  exact hk55 h
theorem t_X10_record_b127 {S : jS} (hS : jCok S) {d : Nat} {Q : Option Value → jx_H → Prop} {k55 : Int32 → Int32 → Int32 → Int32 → Int32 → Int32 → Int32 → jT → Option (Int32 × jT)} (hk55 : ∀ {x1 : Int32} {x2 : Int32} {x3 : Int32} {x4 : Int32} {x5 : Int32} {x6 : Int32} {x7 : Int32} {w8 : Value} {σ : jT}, jw (k55 x1 x2 x3 x4 x5 x6 x7 σ) (fun q => Q (some (.int q.1)) (jh S q.2)) → jx_Ex (d + 6) jm_l174 jm_b174_55 [.ref 0, .int x1, .int x2, .int x3, .int x4, .int x5, .int x6, .int x7, w8] [] (jh S σ) Q) {x1 : Int32} {x2 : Int32} {x3 : Int32} {x4 : Int32} {x6 : Int32} {x7 : Int32} {s0 : Int32} {w5 : Value} {w8 : Value} {σ : jT} (h : jw (f_X10_record_b127 k55 x1 x2 x3 x4 x6 x7 s0 σ) (fun q => Q (some (.int q.1)) (jh S q.2))) : jx_Ex (d + 6) jm_l174 jm_b174_127 [.ref 0, .int x1, .int x2, .int x3, .int x4, w5, .int x6, .int x7, w8] [.int s0] (jh S σ) Q := by
  unfold f_X10_record_b127 at h
  refine xo_8 ?_
  exact t_X10_record_b128 hS hk55 h
theorem t_X10_record_b108 {S : jS} (hS : jCok S) {d : Nat} {Q : Option Value → jx_H → Prop} {k55 : Int32 → Int32 → Int32 → Int32 → Int32 → Int32 → Int32 → jT → Option (Int32 × jT)} (hk55 : ∀ {x1 : Int32} {x2 : Int32} {x3 : Int32} {x4 : Int32} {x5 : Int32} {x6 : Int32} {x7 : Int32} {w8 : Value} {σ : jT}, jw (k55 x1 x2 x3 x4 x5 x6 x7 σ) (fun q => Q (some (.int q.1)) (jh S q.2)) → jx_Ex (d + 6) jm_l174 jm_b174_55 [.ref 0, .int x1, .int x2, .int x3, .int x4, .int x5, .int x6, .int x7, w8] [] (jh S σ) Q) {x1 : Int32} {x2 : Int32} {x3 : Int32} {x4 : Int32} {x5 : Int32} {x6 : Int32} {x7 : Int32} {x8 : Int32} {σ : jT} (h : jw (f_X10_record_b108 k55 x1 x2 x3 x4 x5 x6 x7 x8 σ) (fun q => Q (some (.int q.1)) (jh S q.2))) : jx_Ex (d + 6) jm_l174 jm_b174_108 [.ref 0, .int x1, .int x2, .int x3, .int x4, .int x5, .int x6, .int x7, .int x8] [] (jh S σ) Q := by
  unfold f_X10_record_b108 at h
  refine xo_1 rfl ?_
  refine xo_1 rfl ?_
  refine xo_1 rfl ?_
  refine xo_61 (t := jm_b174_127) rfl (fun hc1 => ?_) (fun hc1 => ?_)
  · replace h := jw_pos hc1 h
    exact t_X10_record_b127 hS hk55 h
  · replace h := jw_neg hc1 h
    refine xo_1 rfl ?_
    refine xo_0 rfl ?_
    refine xo_62 (t := jm_b174_127) rfl (fun hc2 => ?_) (fun hc2 => ?_)
    · replace h := jw_pos hc2 h
      exact t_X10_record_b127 hS hk55 h
    · replace h := jw_neg hc2 h
      refine xo_8 ?_
      refine xo_54 (t := jm_b174_128) rfl ?_
      exact t_X10_record_b128 hS hk55 h
theorem t_X10_record_b87 {S : jS} (hS : jCok S) {d : Nat} {Q : Option Value → jx_H → Prop} {k55 : Int32 → Int32 → Int32 → Int32 → Int32 → Int32 → Int32 → jT → Option (Int32 × jT)} (hk55 : ∀ {x1 : Int32} {x2 : Int32} {x3 : Int32} {x4 : Int32} {x5 : Int32} {x6 : Int32} {x7 : Int32} {w8 : Value} {σ : jT}, jw (k55 x1 x2 x3 x4 x5 x6 x7 σ) (fun q => Q (some (.int q.1)) (jh S q.2)) → jx_Ex (d + 6) jm_l174 jm_b174_55 [.ref 0, .int x1, .int x2, .int x3, .int x4, .int x5, .int x6, .int x7, w8] [] (jh S σ) Q) {x1 : Int32} {x2 : Int32} {x3 : Int32} {x4 : Int32} {x5 : Int32} {x6 : Int32} {x7 : Int32} {s0 : Int32} {w8 : Value} {σ : jT} (h : jw (f_X10_record_b87 k55 x1 x2 x3 x4 x5 x6 x7 s0 σ) (fun q => Q (some (.int q.1)) (jh S q.2))) : jx_Ex (d + 6) jm_l174 jm_b174_87 [.ref 0, .int x1, .int x2, .int x3, .int x4, .int x5, .int x6, .int x7, w8] [.int s0] (jh S σ) Q := by
  unfold f_X10_record_b87 at h
  refine xo_5 (ls' := [.ref 0, .int x1, .int x2, .int x3, .int x4, .int x5, .int x6, .int x7, .int s0]) rfl ?_
  refine xo_1 rfl ?_
  refine xo_0 rfl ?_
  refine xo_66 (t := jm_b174_108) rfl (fun hc1 => ?_) (fun hc1 => ?_)
  · replace h := jw_pos hc1 h
    exact t_X10_record_b108 hS hk55 h
  · replace h := jw_neg hc1 h
    refine xo_1 rfl ?_
    refine xo_4 (ls' := [.ref 0, .int x1, .int s0, .int x3, .int x4, .int x5, .int x6, .int x7, .int s0]) rfl ?_
    refine xo_1 rfl ?_
    refine xo_4 (ls' := [.ref 0, .int x1, .int s0, .int x6, .int x4, .int x5, .int x6, .int x7, .int s0]) rfl ?_
    refine xo_1 rfl ?_
    refine xo_5 (ls' := [.ref 0, .int x1, .int s0, .int x6, .int x7, .int x5, .int x6, .int x7, .int s0]) rfl ?_
    refine xo_8 ?_
    refine xo_5 (ls' := [.ref 0, .int x1, .int s0, .int x6, .int x7, .int 0, .int x6, .int x7, .int s0]) rfl ?_
    exact t_X10_record_b108 hS hk55 h
theorem t_X10_record_b55 {S : jS} (hS : jCok S) {d : Nat} {Q : Option Value → jx_H → Prop} {k40 : Int32 → Int32 → Int32 → Int32 → Int32 → Int32 → jT → Option (Int32 × jT)} (hk40 : ∀ {x1 : Int32} {x2 : Int32} {x3 : Int32} {x4 : Int32} {x5 : Int32} {x6 : Int32} {w7 : Value} {w8 : Value} {σ : jT}, jw (k40 x1 x2 x3 x4 x5 x6 σ) (fun q => Q (some (.int q.1)) (jh S q.2)) → jx_Ex (d + 6) jm_l174 jm_b174_40 [.ref 0, .int x1, .int x2, .int x3, .int x4, .int x5, .int x6, w7, w8] [] (jh S σ) Q) : ∀ (n : Nat) {x1 : Int32} {x2 : Int32} {x3 : Int32} {x4 : Int32} {x5 : Int32} {x6 : Int32} {x7 : Int32} {w8 : Value} {σ : jT}, jw (f_X10_record_b55 k40 n x1 x2 x3 x4 x5 x6 x7 σ) (fun q => Q (some (.int q.1)) (jh S q.2)) → jx_Ex (d + 6) jm_l174 jm_b174_55 [.ref 0, .int x1, .int x2, .int x3, .int x4, .int x5, .int x6, .int x7, w8] [] (jh S σ) Q := by
  intro n
  induction n with
  | zero => intro x1 x2 x3 x4 x5 x6 x7 w8 σ h; exact jw_none h
  | succ n ih =>
    intro x1 x2 x3 x4 x5 x6 x7 w8 σ h
    rw [f_X10_record_b55] at h
    refine xo_1 rfl ?_
    refine xo_2 rfl ?_
    refine xc_33 (i := 1) (q := 3) hS ly0 rfl (xc_P hS (by decide)) ?_
    refine xo_49 (st' := [.int x7]) rfl rfl (xc_ly hS ly3) rfl (Nat.le_of_ble_eq_true rfl) ?_
    refine t_X3_riderCount hS ?_
    refine jw_mono (jw_bind h) (fun q1 h => ?_)
    show jx_Ex _ _ _ _ [.int q1.1, .int x7] (jh S q1.2) _
    refine xo_64 (t := jm_b174_137) rfl (fun hc2 => ?_) (fun hc2 => ?_)
    · replace h := jw_pos hc2 h
      refine xo_13 (ls' := [.ref 0, .int x1, .int x2, .int x3, .int x4, .int x5, .int (x6 + 1), .int x7, w8]) rfl rfl ?_
      refine xo_54 (t := jm_b174_40) rfl ?_
      exact hk40 h
    · replace h := jw_neg hc2 h
      refine xo_1 rfl ?_
      refine xo_1 rfl ?_
      refine xo_62 (t := jm_b174_78) rfl (fun hc3 => ?_) (fun hc3 => ?_)
      · replace h := jw_pos hc3 h
        refine xo_2 rfl ?_
        refine xo_1 rfl ?_
        refine xo_1 rfl ?_
        refine xo_0 rfl ?_
        refine xo_49 (st' := []) rfl rfl (xc_ly hS ly0) rfl (Nat.le_of_ble_eq_true rfl) ?_
        refine t_X10_stepsOf hS ?_
        refine jw_mono (jw_bind h) (fun q4 h => ?_)
        show jx_Ex _ _ _ _ [.int q4.1] (jh S q4.2) _
        exact t_X10_record_b87 hS ih h
      · replace h := jw_neg hc3 h
        refine xo_8 ?_
        refine xo_54 (t := jm_b174_87) rfl ?_
        exact t_X10_record_b87 hS ih h
theorem t_X10_record_b40 {S : jS} (hS : jCok S) {d : Nat} {Q : Option Value → jx_H → Prop} : ∀ (n : Nat) {x1 : Int32} {x2 : Int32} {x3 : Int32} {x4 : Int32} {x5 : Int32} {x6 : Int32} {w7 : Value} {w8 : Value} {σ : jT}, jw (f_X10_record_b40 n x1 x2 x3 x4 x5 x6 σ) (fun q => Q (some (.int q.1)) (jh S q.2)) → jx_Ex (d + 6) jm_l174 jm_b174_40 [.ref 0, .int x1, .int x2, .int x3, .int x4, .int x5, .int x6, w7, w8] [] (jh S σ) Q := by
  intro n
  induction n with
  | zero => intro x1 x2 x3 x4 x5 x6 w7 w8 σ h; exact jw_none h
  | succ n ih =>
    intro x1 x2 x3 x4 x5 x6 w7 w8 σ h
    rw [f_X10_record_b40] at h
    refine xo_1 rfl ?_
    refine xo_2 rfl ?_
    refine xc_33 (i := 1) (q := 3) hS ly0 rfl (xc_P hS (by decide)) ?_
    refine xo_49 (st' := [.int x6]) rfl rfl (xc_ly hS ly3) rfl (Nat.le_of_ble_eq_true rfl) ?_
    refine t_X3_riderCount hS ?_
    refine jw_mono (jw_bind h) (fun q1 h => ?_)
    show jx_Ex _ _ _ _ [.int q1.1, .int x6] (jh S q1.2) _
    refine xo_64 (t := jm_b174_143) rfl (fun hc2 => ?_) (fun hc2 => ?_)
    · replace h := jw_pos hc2 h
      refine xo_2 rfl ?_
      refine xc_33 (i := 5) (q := 47) hS ly0 rfl (xc_P hS (by decide)) ?_
      refine xo_0 rfl ?_
      refine xo_1 rfl ?_
      refine xo_1 rfl ?_
      refine xo_49 (st' := []) rfl rfl (xc_ly hS ly47) rfl (Nat.le_of_ble_eq_true rfl) ?_
      refine t_X6_tell__ hS ?_
      refine jw_mono (jw_bind h) (fun q3 h => ?_)
      show jx_Ex _ _ _ _ [] (jh S q3.2) _
      refine xo_0 rfl ?_
      replace h := jw_some h
      exact xo_69 h
    · replace h := jw_neg hc2 h
      refine xo_8 ?_
      refine xo_5 (ls' := [.ref 0, .int x1, .int x2, .int x3, .int x4, .int x5, .int x6, .int 0, w8]) rfl ?_
      exact t_X10_record_b55 hS ih 1000 h
theorem t_X10_record {S : jS} (hS : jCok S) {d : Nat} {Q : Option Value → jx_H → Prop} {x1 : Int32} {σ : jT} (h : jw (f_X10_record x1 σ) (fun q => Q (some (.int q.1)) (jh S q.2))) : jx_Sp (d + 6) 174 [.ref 0, .int x1] (jh S σ) Q := by
  refine ⟨jm_i174, jm_at174, rfl, rfl, ?_⟩
  show jx_Ex _ jm_l174 jm_b174_0 [.ref 0, .int x1, .retAddr 0, .retAddr 0, .retAddr 0, .retAddr 0, .retAddr 0, .retAddr 0, .retAddr 0] [] _ _
  unfold f_X10_record at h
  refine xo_2 rfl ?_
  refine xc_33 (i := 1) (q := 3) hS ly0 rfl (xc_P hS (by decide)) ?_
  refine xo_0 rfl ?_
  refine xo_49 (st' := []) rfl rfl (xc_ly hS ly3) rfl (Nat.le_of_ble_eq_true rfl) ?_
  refine t_X3_hasPlace hS ?_
  refine jw_mono (jw_bind h) (fun q1 h => ?_)
  show jx_Ex _ _ _ _ [.int q1.1] (jh S q1.2) _
  refine xo_56 (t := jm_b174_13) rfl (fun hc2 => ?_) (fun hc2 => ?_)
  · replace h := jw_pos hc2 h
    refine xo_2 rfl ?_
    refine xc_33 (i := 1) (q := 3) hS ly0 rfl (xc_P hS (by decide)) ?_
    refine xo_49 (st' := []) rfl rfl (xc_ly hS ly3) rfl (Nat.le_of_ble_eq_true rfl) ?_
    refine t_X3_riderCount hS ?_
    refine jw_mono (jw_bind h) (fun q3 h => ?_)
    show jx_Ex _ _ _ _ [.int q3.1] (jh S q3.2) _
    refine xo_8 ?_
    refine xo_64 (t := jm_b174_27) rfl (fun hc4 => ?_) (fun hc4 => ?_)
    · replace h := jw_pos hc4 h
      refine xo_8 ?_
      refine xo_4 (ls' := [.ref 0, .int x1, .int (-1), .retAddr 0, .retAddr 0, .retAddr 0, .retAddr 0, .retAddr 0, .retAddr 0]) rfl ?_
      refine xo_8 ?_
      refine xo_4 (ls' := [.ref 0, .int x1, .int (-1), .int (-1), .retAddr 0, .retAddr 0, .retAddr 0, .retAddr 0, .retAddr 0]) rfl ?_
      refine xo_8 ?_
      refine xo_5 (ls' := [.ref 0, .int x1, .int (-1), .int (-1), .int (-1), .retAddr 0, .retAddr 0, .retAddr 0, .retAddr 0]) rfl ?_
      refine xo_8 ?_
      refine xo_5 (ls' := [.ref 0, .int x1, .int (-1), .int (-1), .int (-1), .int 0, .retAddr 0, .retAddr 0, .retAddr 0]) rfl ?_
      refine xo_8 ?_
      refine xo_5 (ls' := [.ref 0, .int x1, .int (-1), .int (-1), .int (-1), .int 0, .int 0, .retAddr 0, .retAddr 0]) rfl ?_
      exact t_X10_record_b40 hS 1000 h
    · replace h := jw_neg hc4 h
      refine xo_9 ?_
      replace h := jw_some h
      exact xo_69 h
  · replace h := jw_neg hc2 h
    refine xo_8 ?_
    replace h := jw_some h
    exact xo_69 h
/-- Land.hasRiders, at ['x.land', 'int'] -/
def f_X3_hasRiders (x1 : Int32) (σ : jT) : Option (Int32 × jT) :=
  if x1 < 0 then
    some (0, σ)
  else
    if (1 <<< ((σ.1 197) &&& 31)) ≤ x1 then
      some (0, σ)
    else
      some (1, σ)
theorem t_X3_hasRiders {S : jS} (hS : jCok S) {d : Nat} {Q : Option Value → jx_H → Prop} {x1 : Int32} {σ : jT} (h : jw (f_X3_hasRiders x1 σ) (fun q => Q (some (.int q.1)) (jh S q.2))) : jx_Sp (d) 32 [.ref 3, .int x1] (jh S σ) Q := by
  refine ⟨jm_i32, jm_at32, rfl, rfl, ?_⟩
  show jx_Ex _ jm_l32 jm_b32_0 [.ref 3, .int x1] [] _ _
  unfold f_X3_hasRiders at h
  refine xo_0 rfl ?_
  refine xo_57 (t := jm_b32_18) rfl (fun hc1 => ?_) (fun hc1 => ?_)
  · replace h := jw_pos hc1 h
    refine xo_8 ?_
    replace h := jw_some h
    exact xo_70 (by decide) h
  · replace h := jw_neg hc1 h
    refine xo_0 rfl ?_
    refine xo_8 ?_
    refine xo_2 rfl ?_
    refine xc_32 (i := 197) (v := (σ.1 197)) hS ly3 rfl ⟨Nat.le_of_ble_eq_true rfl, Nat.le_of_ble_eq_true rfl⟩ rfl ?_
    refine xo_23 ?_
    refine xo_64 (t := jm_b32_18) rfl (fun hc2 => ?_) (fun hc2 => ?_)
    · replace h := jw_pos hc2 h
      refine xo_8 ?_
      replace h := jw_some h
      exact xo_70 (by decide) h
    · replace h := jw_neg hc2 h
      refine xo_8 ?_
      refine xo_54 (t := jm_b32_19) rfl ?_
      replace h := jw_some h
      exact xo_70 (by decide) h
/-- java/lang/Integer.bitCount, at ['int'] -/
def f_J6_bitCount_0f7a4 (x0 : Int32) (σ : jT) : Option (Int32 × jT) :=
  some (((((((((x0 - (((x0.toUInt32 >>> ((1 : Int32).toUInt32 &&& Int32.toUInt32 31)).toInt32) &&& 1431655765)) &&& 858993459) + ((((x0 - (((x0.toUInt32 >>> ((1 : Int32).toUInt32 &&& Int32.toUInt32 31)).toInt32) &&& 1431655765)).toUInt32 >>> ((2 : Int32).toUInt32 &&& Int32.toUInt32 31)).toInt32) &&& 858993459)) + (((((x0 - (((x0.toUInt32 >>> ((1 : Int32).toUInt32 &&& Int32.toUInt32 31)).toInt32) &&& 1431655765)) &&& 858993459) + ((((x0 - (((x0.toUInt32 >>> ((1 : Int32).toUInt32 &&& Int32.toUInt32 31)).toInt32) &&& 1431655765)).toUInt32 >>> ((2 : Int32).toUInt32 &&& Int32.toUInt32 31)).toInt32) &&& 858993459)).toUInt32 >>> ((4 : Int32).toUInt32 &&& Int32.toUInt32 31)).toInt32)) &&& 252645135) + (((((((x0 - (((x0.toUInt32 >>> ((1 : Int32).toUInt32 &&& Int32.toUInt32 31)).toInt32) &&& 1431655765)) &&& 858993459) + ((((x0 - (((x0.toUInt32 >>> ((1 : Int32).toUInt32 &&& Int32.toUInt32 31)).toInt32) &&& 1431655765)).toUInt32 >>> ((2 : Int32).toUInt32 &&& Int32.toUInt32 31)).toInt32) &&& 858993459)) + (((((x0 - (((x0.toUInt32 >>> ((1 : Int32).toUInt32 &&& Int32.toUInt32 31)).toInt32) &&& 1431655765)) &&& 858993459) + ((((x0 - (((x0.toUInt32 >>> ((1 : Int32).toUInt32 &&& Int32.toUInt32 31)).toInt32) &&& 1431655765)).toUInt32 >>> ((2 : Int32).toUInt32 &&& Int32.toUInt32 31)).toInt32) &&& 858993459)).toUInt32 >>> ((4 : Int32).toUInt32 &&& Int32.toUInt32 31)).toInt32)) &&& 252645135).toUInt32 >>> ((8 : Int32).toUInt32 &&& Int32.toUInt32 31)).toInt32)) + ((((((((x0 - (((x0.toUInt32 >>> ((1 : Int32).toUInt32 &&& Int32.toUInt32 31)).toInt32) &&& 1431655765)) &&& 858993459) + ((((x0 - (((x0.toUInt32 >>> ((1 : Int32).toUInt32 &&& Int32.toUInt32 31)).toInt32) &&& 1431655765)).toUInt32 >>> ((2 : Int32).toUInt32 &&& Int32.toUInt32 31)).toInt32) &&& 858993459)) + (((((x0 - (((x0.toUInt32 >>> ((1 : Int32).toUInt32 &&& Int32.toUInt32 31)).toInt32) &&& 1431655765)) &&& 858993459) + ((((x0 - (((x0.toUInt32 >>> ((1 : Int32).toUInt32 &&& Int32.toUInt32 31)).toInt32) &&& 1431655765)).toUInt32 >>> ((2 : Int32).toUInt32 &&& Int32.toUInt32 31)).toInt32) &&& 858993459)).toUInt32 >>> ((4 : Int32).toUInt32 &&& Int32.toUInt32 31)).toInt32)) &&& 252645135) + (((((((x0 - (((x0.toUInt32 >>> ((1 : Int32).toUInt32 &&& Int32.toUInt32 31)).toInt32) &&& 1431655765)) &&& 858993459) + ((((x0 - (((x0.toUInt32 >>> ((1 : Int32).toUInt32 &&& Int32.toUInt32 31)).toInt32) &&& 1431655765)).toUInt32 >>> ((2 : Int32).toUInt32 &&& Int32.toUInt32 31)).toInt32) &&& 858993459)) + (((((x0 - (((x0.toUInt32 >>> ((1 : Int32).toUInt32 &&& Int32.toUInt32 31)).toInt32) &&& 1431655765)) &&& 858993459) + ((((x0 - (((x0.toUInt32 >>> ((1 : Int32).toUInt32 &&& Int32.toUInt32 31)).toInt32) &&& 1431655765)).toUInt32 >>> ((2 : Int32).toUInt32 &&& Int32.toUInt32 31)).toInt32) &&& 858993459)).toUInt32 >>> ((4 : Int32).toUInt32 &&& Int32.toUInt32 31)).toInt32)) &&& 252645135).toUInt32 >>> ((8 : Int32).toUInt32 &&& Int32.toUInt32 31)).toInt32)).toUInt32 >>> ((16 : Int32).toUInt32 &&& Int32.toUInt32 31)).toInt32)) &&& 63), σ)
theorem t_J6_bitCount_0f7a4 {S : jS} {h0 : jx_H} {d : Nat} {Q : Option Value → jx_H → Prop} {x0 : Int32} {σ : jT} (h : jw (f_J6_bitCount_0f7a4 x0 σ) (fun q => Q (some (.int q.1)) h0)) : jx_Sp (d) 309 [.int x0] h0 Q := by
  refine ⟨jm_i309, jm_at309, rfl, rfl, ?_⟩
  show jx_Ex _ jm_l309 jm_b309_0 [.int x0] [] _ _
  unfold f_J6_bitCount_0f7a4 at h
  refine xo_0 rfl ?_
  refine xo_0 rfl ?_
  refine xo_8 ?_
  refine xo_25 ?_
  refine xo_12 ?_
  refine xo_20 ?_
  refine xo_15 ?_
  refine xo_4 (ls' := [.int (x0 - (((x0.toUInt32 >>> ((1 : Int32).toUInt32 &&& Int32.toUInt32 31)).toInt32) &&& 1431655765))]) rfl ?_
  refine xo_0 rfl ?_
  refine xo_12 ?_
  refine xo_20 ?_
  refine xo_0 rfl ?_
  refine xo_8 ?_
  refine xo_25 ?_
  refine xo_12 ?_
  refine xo_20 ?_
  refine xo_14 ?_
  refine xo_4 (ls' := [.int (((x0 - (((x0.toUInt32 >>> ((1 : Int32).toUInt32 &&& Int32.toUInt32 31)).toInt32) &&& 1431655765)) &&& 858993459) + ((((x0 - (((x0.toUInt32 >>> ((1 : Int32).toUInt32 &&& Int32.toUInt32 31)).toInt32) &&& 1431655765)).toUInt32 >>> ((2 : Int32).toUInt32 &&& Int32.toUInt32 31)).toInt32) &&& 858993459))]) rfl ?_
  refine xo_0 rfl ?_
  refine xo_0 rfl ?_
  refine xo_8 ?_
  refine xo_25 ?_
  refine xo_14 ?_
  refine xo_12 ?_
  refine xo_20 ?_
  refine xo_4 (ls' := [.int (((((x0 - (((x0.toUInt32 >>> ((1 : Int32).toUInt32 &&& Int32.toUInt32 31)).toInt32) &&& 1431655765)) &&& 858993459) + ((((x0 - (((x0.toUInt32 >>> ((1 : Int32).toUInt32 &&& Int32.toUInt32 31)).toInt32) &&& 1431655765)).toUInt32 >>> ((2 : Int32).toUInt32 &&& Int32.toUInt32 31)).toInt32) &&& 858993459)) + (((((x0 - (((x0.toUInt32 >>> ((1 : Int32).toUInt32 &&& Int32.toUInt32 31)).toInt32) &&& 1431655765)) &&& 858993459) + ((((x0 - (((x0.toUInt32 >>> ((1 : Int32).toUInt32 &&& Int32.toUInt32 31)).toInt32) &&& 1431655765)).toUInt32 >>> ((2 : Int32).toUInt32 &&& Int32.toUInt32 31)).toInt32) &&& 858993459)).toUInt32 >>> ((4 : Int32).toUInt32 &&& Int32.toUInt32 31)).toInt32)) &&& 252645135)]) rfl ?_
  refine xo_0 rfl ?_
  refine xo_0 rfl ?_
  refine xo_9 ?_
  refine xo_25 ?_
  refine xo_14 ?_
  refine xo_4 (ls' := [.int ((((((x0 - (((x0.toUInt32 >>> ((1 : Int32).toUInt32 &&& Int32.toUInt32 31)).toInt32) &&& 1431655765)) &&& 858993459) + ((((x0 - (((x0.toUInt32 >>> ((1 : Int32).toUInt32 &&& Int32.toUInt32 31)).toInt32) &&& 1431655765)).toUInt32 >>> ((2 : Int32).toUInt32 &&& Int32.toUInt32 31)).toInt32) &&& 858993459)) + (((((x0 - (((x0.toUInt32 >>> ((1 : Int32).toUInt32 &&& Int32.toUInt32 31)).toInt32) &&& 1431655765)) &&& 858993459) + ((((x0 - (((x0.toUInt32 >>> ((1 : Int32).toUInt32 &&& Int32.toUInt32 31)).toInt32) &&& 1431655765)).toUInt32 >>> ((2 : Int32).toUInt32 &&& Int32.toUInt32 31)).toInt32) &&& 858993459)).toUInt32 >>> ((4 : Int32).toUInt32 &&& Int32.toUInt32 31)).toInt32)) &&& 252645135) + (((((((x0 - (((x0.toUInt32 >>> ((1 : Int32).toUInt32 &&& Int32.toUInt32 31)).toInt32) &&& 1431655765)) &&& 858993459) + ((((x0 - (((x0.toUInt32 >>> ((1 : Int32).toUInt32 &&& Int32.toUInt32 31)).toInt32) &&& 1431655765)).toUInt32 >>> ((2 : Int32).toUInt32 &&& Int32.toUInt32 31)).toInt32) &&& 858993459)) + (((((x0 - (((x0.toUInt32 >>> ((1 : Int32).toUInt32 &&& Int32.toUInt32 31)).toInt32) &&& 1431655765)) &&& 858993459) + ((((x0 - (((x0.toUInt32 >>> ((1 : Int32).toUInt32 &&& Int32.toUInt32 31)).toInt32) &&& 1431655765)).toUInt32 >>> ((2 : Int32).toUInt32 &&& Int32.toUInt32 31)).toInt32) &&& 858993459)).toUInt32 >>> ((4 : Int32).toUInt32 &&& Int32.toUInt32 31)).toInt32)) &&& 252645135).toUInt32 >>> ((8 : Int32).toUInt32 &&& Int32.toUInt32 31)).toInt32))]) rfl ?_
  refine xo_0 rfl ?_
  refine xo_0 rfl ?_
  refine xo_9 ?_
  refine xo_25 ?_
  refine xo_14 ?_
  refine xo_4 (ls' := [.int (((((((x0 - (((x0.toUInt32 >>> ((1 : Int32).toUInt32 &&& Int32.toUInt32 31)).toInt32) &&& 1431655765)) &&& 858993459) + ((((x0 - (((x0.toUInt32 >>> ((1 : Int32).toUInt32 &&& Int32.toUInt32 31)).toInt32) &&& 1431655765)).toUInt32 >>> ((2 : Int32).toUInt32 &&& Int32.toUInt32 31)).toInt32) &&& 858993459)) + (((((x0 - (((x0.toUInt32 >>> ((1 : Int32).toUInt32 &&& Int32.toUInt32 31)).toInt32) &&& 1431655765)) &&& 858993459) + ((((x0 - (((x0.toUInt32 >>> ((1 : Int32).toUInt32 &&& Int32.toUInt32 31)).toInt32) &&& 1431655765)).toUInt32 >>> ((2 : Int32).toUInt32 &&& Int32.toUInt32 31)).toInt32) &&& 858993459)).toUInt32 >>> ((4 : Int32).toUInt32 &&& Int32.toUInt32 31)).toInt32)) &&& 252645135) + (((((((x0 - (((x0.toUInt32 >>> ((1 : Int32).toUInt32 &&& Int32.toUInt32 31)).toInt32) &&& 1431655765)) &&& 858993459) + ((((x0 - (((x0.toUInt32 >>> ((1 : Int32).toUInt32 &&& Int32.toUInt32 31)).toInt32) &&& 1431655765)).toUInt32 >>> ((2 : Int32).toUInt32 &&& Int32.toUInt32 31)).toInt32) &&& 858993459)) + (((((x0 - (((x0.toUInt32 >>> ((1 : Int32).toUInt32 &&& Int32.toUInt32 31)).toInt32) &&& 1431655765)) &&& 858993459) + ((((x0 - (((x0.toUInt32 >>> ((1 : Int32).toUInt32 &&& Int32.toUInt32 31)).toInt32) &&& 1431655765)).toUInt32 >>> ((2 : Int32).toUInt32 &&& Int32.toUInt32 31)).toInt32) &&& 858993459)).toUInt32 >>> ((4 : Int32).toUInt32 &&& Int32.toUInt32 31)).toInt32)) &&& 252645135).toUInt32 >>> ((8 : Int32).toUInt32 &&& Int32.toUInt32 31)).toInt32)) + ((((((((x0 - (((x0.toUInt32 >>> ((1 : Int32).toUInt32 &&& Int32.toUInt32 31)).toInt32) &&& 1431655765)) &&& 858993459) + ((((x0 - (((x0.toUInt32 >>> ((1 : Int32).toUInt32 &&& Int32.toUInt32 31)).toInt32) &&& 1431655765)).toUInt32 >>> ((2 : Int32).toUInt32 &&& Int32.toUInt32 31)).toInt32) &&& 858993459)) + (((((x0 - (((x0.toUInt32 >>> ((1 : Int32).toUInt32 &&& Int32.toUInt32 31)).toInt32) &&& 1431655765)) &&& 858993459) + ((((x0 - (((x0.toUInt32 >>> ((1 : Int32).toUInt32 &&& Int32.toUInt32 31)).toInt32) &&& 1431655765)).toUInt32 >>> ((2 : Int32).toUInt32 &&& Int32.toUInt32 31)).toInt32) &&& 858993459)).toUInt32 >>> ((4 : Int32).toUInt32 &&& Int32.toUInt32 31)).toInt32)) &&& 252645135) + (((((((x0 - (((x0.toUInt32 >>> ((1 : Int32).toUInt32 &&& Int32.toUInt32 31)).toInt32) &&& 1431655765)) &&& 858993459) + ((((x0 - (((x0.toUInt32 >>> ((1 : Int32).toUInt32 &&& Int32.toUInt32 31)).toInt32) &&& 1431655765)).toUInt32 >>> ((2 : Int32).toUInt32 &&& Int32.toUInt32 31)).toInt32) &&& 858993459)) + (((((x0 - (((x0.toUInt32 >>> ((1 : Int32).toUInt32 &&& Int32.toUInt32 31)).toInt32) &&& 1431655765)) &&& 858993459) + ((((x0 - (((x0.toUInt32 >>> ((1 : Int32).toUInt32 &&& Int32.toUInt32 31)).toInt32) &&& 1431655765)).toUInt32 >>> ((2 : Int32).toUInt32 &&& Int32.toUInt32 31)).toInt32) &&& 858993459)).toUInt32 >>> ((4 : Int32).toUInt32 &&& Int32.toUInt32 31)).toInt32)) &&& 252645135).toUInt32 >>> ((8 : Int32).toUInt32 &&& Int32.toUInt32 31)).toInt32)).toUInt32 >>> ((16 : Int32).toUInt32 &&& Int32.toUInt32 31)).toInt32))]) rfl ?_
  refine xo_0 rfl ?_
  refine xo_9 ?_
  refine xo_20 ?_
  replace h := jw_some h
  exact xo_69 h
/-- Matching.part, at ['x.matching', 'int', 'int', 'int', 'int'] -/
def f_X4_part_b159 (rec : Nat → List Int32 → jT → Option (Int32 × jT)) (k88 : Int32 → Int32 → Int32 → Int32 → Int32 → jT → Option (Int32 × jT)) (x1 : Int32) (x2 : Int32) (x3 : Int32) (x4 : Int32) (x5 : Int32) (σ : jT) : Option (Int32 × jT) :=
  k88 x1 x2 x3 x4 (x5 + 1) σ
def f_X4_part_b88 (rec : Nat → List Int32 → jT → Option (Int32 × jT)) : Nat → Int32 → Int32 → Int32 → Int32 → Int32 → jT → Option (Int32 × jT)
  | 0, _, _, _, _, _, _ => none
  | n + 1, x1, x2, x3, x4, x5, σ =>
    if 6 ≤ x5 then
      some (0, σ)
    else
      if ((x2 >>> (x5 &&& 31)) &&& 1) = 0 then
        f_X4_part_b159 rec (f_X4_part_b88 rec n) x1 x2 x3 x4 x5 σ
      else
        if jx_in x1 6 then
        if jx_in x5 6 then
        if jx_in ((x1 * 6) + x5) 36 then
        (rec 0 [(x1 + 1), (x2 &&& (((1 <<< (x1 &&& 31)) ||| (1 <<< (x5 &&& 31))) ^^^ (-1))), (x3 + (σ.2 59 ((x1 * 6) + x5).toNatClampNeg)), x4] (gA (gA σ 60 x1.toNatClampNeg x5) 60 x5.toNatClampNeg x1)).bind fun q6 =>
        f_X4_part_b159 rec (f_X4_part_b88 rec n) x1 x2 x3 x4 x5 q6.2
        else none
        else none
        else none
def f_X4_part_b83 (rec : Nat → List Int32 → jT → Option (Int32 × jT)) (x1 : Int32) (x2 : Int32) (x3 : Int32) (x4 : Int32) (σ : jT) : Option (Int32 × jT) :=
  f_X4_part_b88 rec 1000 x1 x2 x3 x4 (x1 + 1) σ
def f_X4_part (rec : Nat → List Int32 → jT → Option (Int32 × jT)) (x1 : Int32) (x2 : Int32) (x3 : Int32) (x4 : Int32) (σ : jT) : Option (Int32 × jT) :=
  if x1 < 6 then
    if ¬ ((x2 >>> (x1 &&& 31)) &&& 1) = 0 then
      if x4 = 0 then
        f_X4_part_b83 rec x1 x2 x3 x4 σ
      else
        if jx_in x1 6 then
        (rec 0 [(x1 + 1), (x2 &&& ((1 <<< (x1 &&& 31)) ^^^ (-1))), x3, 0] (gA σ 60 x1.toNatClampNeg (-1))).bind fun q5 =>
        f_X4_part_b83 rec x1 x2 x3 x4 q5.2
        else none
    else
      (rec 0 [(x1 + 1), x2, x3, x4] σ).bind fun q6 =>
      some (0, q6.2)
  else
    if x3 ≤ (σ.1 3715) then
      some (0, σ)
    else
      some (0, (gC (gs σ 3715 x3) 60 61 0 0 6))
theorem t_X4_part_b159 {S : jS} (hS : jCok S) {d : Nat} {Q : Option Value → jx_H → Prop} {rec : Nat → List Int32 → jT → Option (Int32 × jT)} (hrec_X4_part : ∀ {x1 : Int32} {x2 : Int32} {x3 : Int32} {x4 : Int32} {σ : jT} {Q : Option Value → jx_H → Prop}, jw (rec 0 [x1, x2, x3, x4] σ) (fun q => Q none (jh S q.2)) → jx_Sp (d) 46 [.ref 58, .int x1, .int x2, .int x3, .int x4] (jh S σ) Q) {k88 : Int32 → Int32 → Int32 → Int32 → Int32 → jT → Option (Int32 × jT)} (hk88 : ∀ {x1 : Int32} {x2 : Int32} {x3 : Int32} {x4 : Int32} {x5 : Int32} {w6 : Value} {σ : jT}, jw (k88 x1 x2 x3 x4 x5 σ) (fun q => Q none (jh S q.2)) → jx_Ex (d + 1) jm_l46 jm_b46_88 [.ref 58, .int x1, .int x2, .int x3, .int x4, .int x5, w6] [] (jh S σ) Q) {x1 : Int32} {x2 : Int32} {x3 : Int32} {x4 : Int32} {x5 : Int32} {w6 : Value} {σ : jT} (h : jw (f_X4_part_b159 rec k88 x1 x2 x3 x4 x5 σ) (fun q => Q none (jh S q.2))) : jx_Ex (d + 1) jm_l46 jm_b46_159 [.ref 58, .int x1, .int x2, .int x3, .int x4, .int x5, w6] [] (jh S σ) Q := by
  unfold f_X4_part_b159 at h
  refine xo_13 (ls' := [.ref 58, .int x1, .int x2, .int x3, .int x4, .int (x5 + 1), w6]) rfl rfl ?_
  refine xo_54 (t := jm_b46_88) rfl ?_
  exact hk88 h
theorem t_X4_part_b88 {S : jS} (hS : jCok S) {d : Nat} {Q : Option Value → jx_H → Prop} {rec : Nat → List Int32 → jT → Option (Int32 × jT)} (hrec_X4_part : ∀ {x1 : Int32} {x2 : Int32} {x3 : Int32} {x4 : Int32} {σ : jT} {Q : Option Value → jx_H → Prop}, jw (rec 0 [x1, x2, x3, x4] σ) (fun q => Q none (jh S q.2)) → jx_Sp (d) 46 [.ref 58, .int x1, .int x2, .int x3, .int x4] (jh S σ) Q) : ∀ (n : Nat) {x1 : Int32} {x2 : Int32} {x3 : Int32} {x4 : Int32} {x5 : Int32} {w6 : Value} {σ : jT}, jw (f_X4_part_b88 rec n x1 x2 x3 x4 x5 σ) (fun q => Q none (jh S q.2)) → jx_Ex (d + 1) jm_l46 jm_b46_88 [.ref 58, .int x1, .int x2, .int x3, .int x4, .int x5, w6] [] (jh S σ) Q := by
  intro n
  induction n with
  | zero => intro x1 x2 x3 x4 x5 w6 σ h; exact jw_none h
  | succ n ih =>
    intro x1 x2 x3 x4 x5 w6 σ h
    rw [f_X4_part_b88] at h
    refine xo_1 rfl ?_
    refine xo_9 ?_
    refine xo_64 (t := jm_b46_165) rfl (fun hc1 => ?_) (fun hc1 => ?_)
    · replace h := jw_pos hc1 h
      replace h := jw_some h
      exact xo_71 h
    · replace h := jw_neg hc1 h
      refine xo_0 rfl ?_
      refine xo_1 rfl ?_
      refine xo_24 ?_
      refine xo_8 ?_
      refine xo_20 ?_
      refine xo_55 (t := jm_b46_159) rfl (fun hc2 => ?_) (fun hc2 => ?_)
      · replace h := jw_pos hc2 h
        exact t_X4_part_b159 hS hrec_X4_part ih h
      · replace h := jw_neg hc2 h
        refine xo_2 rfl ?_
        refine xc_33 (i := 3713) (q := 60) hS ly58 rfl (xc_P hS (by decide)) ?_
        refine xo_0 rfl ?_
        refine xo_1 rfl ?_
        obtain ⟨hi3, h⟩ := jw_chk h
        refine xc_41 (j := x1.toNatClampNeg) hS ly60 ⟨Nat.le_of_ble_eq_true rfl, Nat.le_of_ble_eq_true rfl⟩ hi3 rfl ?_
        refine xo_2 rfl ?_
        refine xc_33 (i := 3713) (q := 60) hS ly58 rfl (xc_P hS (by decide)) ?_
        refine xo_1 rfl ?_
        refine xo_0 rfl ?_
        obtain ⟨hi4, h⟩ := jw_chk h
        refine xc_41 (j := x5.toNatClampNeg) hS ly60 ⟨Nat.le_of_ble_eq_true rfl, Nat.le_of_ble_eq_true rfl⟩ hi4 rfl ?_
        refine xo_0 rfl ?_
        refine xo_8 ?_
        refine xo_0 rfl ?_
        refine xo_23 ?_
        refine xo_8 ?_
        refine xo_1 rfl ?_
        refine xo_23 ?_
        refine xo_21 ?_
        refine xo_8 ?_
        refine xo_22 ?_
        refine xo_20 ?_
        refine xo_5 (ls' := [.ref 58, .int x1, .int x2, .int x3, .int x4, .int x5, .int (x2 &&& (((1 <<< (x1 &&& 31)) ||| (1 <<< (x5 &&& 31))) ^^^ (-1)))]) rfl ?_
        refine xo_2 rfl ?_
        refine xo_0 rfl ?_
        refine xo_8 ?_
        refine xo_14 ?_
        refine xo_1 rfl ?_
        refine xo_0 rfl ?_
        refine xo_2 rfl ?_
        refine xc_33 (i := 3712) (q := 59) hS ly58 rfl (xc_P hS (by decide)) ?_
        refine xo_0 rfl ?_
        refine xo_9 ?_
        refine xo_16 ?_
        refine xo_1 rfl ?_
        refine xo_14 ?_
        obtain ⟨hi5, h⟩ := jw_chk h
        refine xc_38 (j := ((x1 * 6) + x5).toNatClampNeg) (v := (σ.2 59 ((x1 * 6) + x5).toNatClampNeg)) hS ly59 ⟨Nat.le_of_ble_eq_true rfl, Nat.le_of_ble_eq_true rfl⟩ hi5 rfl rfl ?_
        refine xo_14 ?_
        refine xo_1 rfl ?_
        refine xo_49 (st' := []) rfl rfl (xc_ly hS ly58) rfl (Nat.le_of_ble_eq_true rfl) ?_
        refine hrec_X4_part ?_
        refine jw_mono (jw_bind h) (fun q6 h => ?_)
        show jx_Ex _ _ _ _ [] (jh S q6.2) _
        exact t_X4_part_b159 hS hrec_X4_part ih h
theorem t_X4_part_b83 {S : jS} (hS : jCok S) {d : Nat} {Q : Option Value → jx_H → Prop} {rec : Nat → List Int32 → jT → Option (Int32 × jT)} (hrec_X4_part : ∀ {x1 : Int32} {x2 : Int32} {x3 : Int32} {x4 : Int32} {σ : jT} {Q : Option Value → jx_H → Prop}, jw (rec 0 [x1, x2, x3, x4] σ) (fun q => Q none (jh S q.2)) → jx_Sp (d) 46 [.ref 58, .int x1, .int x2, .int x3, .int x4] (jh S σ) Q) {x1 : Int32} {x2 : Int32} {x3 : Int32} {x4 : Int32} {w5 : Value} {w6 : Value} {σ : jT} (h : jw (f_X4_part_b83 rec x1 x2 x3 x4 σ) (fun q => Q none (jh S q.2))) : jx_Ex (d + 1) jm_l46 jm_b46_83 [.ref 58, .int x1, .int x2, .int x3, .int x4, w5, w6] [] (jh S σ) Q := by
  unfold f_X4_part_b83 at h
  refine xo_0 rfl ?_
  refine xo_8 ?_
  refine xo_14 ?_
  refine xo_5 (ls' := [.ref 58, .int x1, .int x2, .int x3, .int x4, .int (x1 + 1), w6]) rfl ?_
  exact t_X4_part_b88 hS hrec_X4_part 1000 h
theorem t_X4_part {S : jS} (hS : jCok S) {d : Nat} {Q : Option Value → jx_H → Prop} {rec : Nat → List Int32 → jT → Option (Int32 × jT)} (hrec_X4_part : ∀ {x1 : Int32} {x2 : Int32} {x3 : Int32} {x4 : Int32} {σ : jT} {Q : Option Value → jx_H → Prop}, jw (rec 0 [x1, x2, x3, x4] σ) (fun q => Q none (jh S q.2)) → jx_Sp (d) 46 [.ref 58, .int x1, .int x2, .int x3, .int x4] (jh S σ) Q) {x1 : Int32} {x2 : Int32} {x3 : Int32} {x4 : Int32} {σ : jT} (h : jw (f_X4_part rec x1 x2 x3 x4 σ) (fun q => Q none (jh S q.2))) : jx_Sp (d + 1) 46 [.ref 58, .int x1, .int x2, .int x3, .int x4] (jh S σ) Q := by
  refine ⟨jm_i46, jm_at46, rfl, rfl, ?_⟩
  show jx_Ex _ jm_l46 jm_b46_0 [.ref 58, .int x1, .int x2, .int x3, .int x4, .retAddr 0, .retAddr 0] [] _ _
  unfold f_X4_part at h
  refine xo_0 rfl ?_
  refine xo_9 ?_
  refine xo_63 (t := jm_b46_35) rfl (fun hc1 => ?_) (fun hc1 => ?_)
  · replace h := jw_pos hc1 h
    refine xo_0 rfl ?_
    refine xo_0 rfl ?_
    refine xo_24 ?_
    refine xo_8 ?_
    refine xo_20 ?_
    refine xo_56 (t := jm_b46_55) rfl (fun hc2 => ?_) (fun hc2 => ?_)
    · replace h := jw_pos hc2 h
      refine xo_1 rfl ?_
      refine xo_55 (t := jm_b46_83) rfl (fun hc3 => ?_) (fun hc3 => ?_)
      · replace h := jw_pos hc3 h
        exact t_X4_part_b83 hS hrec_X4_part h
      · replace h := jw_neg hc3 h
        refine xo_2 rfl ?_
        refine xc_33 (i := 3713) (q := 60) hS ly58 rfl (xc_P hS (by decide)) ?_
        refine xo_0 rfl ?_
        refine xo_8 ?_
        obtain ⟨hi4, h⟩ := jw_chk h
        refine xc_41 (j := x1.toNatClampNeg) hS ly60 ⟨Nat.le_of_ble_eq_true rfl, Nat.le_of_ble_eq_true rfl⟩ hi4 rfl ?_
        refine xo_2 rfl ?_
        refine xo_0 rfl ?_
        refine xo_8 ?_
        refine xo_14 ?_
        refine xo_0 rfl ?_
        refine xo_8 ?_
        refine xo_0 rfl ?_
        refine xo_23 ?_
        refine xo_8 ?_
        refine xo_22 ?_
        refine xo_20 ?_
        refine xo_0 rfl ?_
        refine xo_8 ?_
        refine xo_49 (st' := []) rfl rfl (xc_ly hS ly58) rfl (Nat.le_of_ble_eq_true rfl) ?_
        refine hrec_X4_part ?_
        refine jw_mono (jw_bind h) (fun q5 h => ?_)
        show jx_Ex _ _ _ _ [] (jh S q5.2) _
        exact t_X4_part_b83 hS hrec_X4_part h
    · replace h := jw_neg hc2 h
      refine xo_2 rfl ?_
      refine xo_0 rfl ?_
      refine xo_8 ?_
      refine xo_14 ?_
      refine xo_0 rfl ?_
      refine xo_0 rfl ?_
      refine xo_1 rfl ?_
      refine xo_49 (st' := []) rfl rfl (xc_ly hS ly58) rfl (Nat.le_of_ble_eq_true rfl) ?_
      refine hrec_X4_part ?_
      refine jw_mono (jw_bind h) (fun q6 h => ?_)
      show jx_Ex _ _ _ _ [] (jh S q6.2) _
      replace h := jw_some h
      exact xo_71 h
  · replace h := jw_neg hc1 h
    refine xo_0 rfl ?_
    refine xo_2 rfl ?_
    refine xc_32 (i := 3715) (v := (σ.1 3715)) hS ly58 rfl ⟨Nat.le_of_ble_eq_true rfl, Nat.le_of_ble_eq_true rfl⟩ rfl ?_
    refine xo_66 (t := jm_b46_34) rfl (fun hc7 => ?_) (fun hc7 => ?_)
    · replace h := jw_pos hc7 h
      replace h := jw_some h
      exact xo_71 h
    · replace h := jw_neg hc7 h
      refine xo_2 rfl ?_
      refine xo_0 rfl ?_
      refine xc_34 (i := 3715) hS ly58 rfl ⟨Nat.le_of_ble_eq_true rfl, Nat.le_of_ble_eq_true rfl⟩ ?_
      refine xo_2 rfl ?_
      refine xc_33 (i := 3713) (q := 60) hS ly58 rfl (xc_P hS (by decide)) ?_
      refine xo_8 ?_
      refine xo_2 rfl ?_
      refine xc_33 (i := 3714) (q := 61) hS ly58 rfl (xc_P hS (by decide)) ?_
      refine xo_8 ?_
      refine xo_9 ?_
      refine xc_53 (sp' := 0) (dp' := 0) (n' := 6) hS ly60 ly61 ⟨Nat.le_of_ble_eq_true rfl, Nat.le_of_ble_eq_true rfl⟩ ⟨Nat.le_of_ble_eq_true rfl, Nat.le_of_ble_eq_true rfl⟩ (by decide) (by decide) (by decide) (by decide) (by decide) (by decide) (Nat.le_of_ble_eq_true rfl) ?_
      replace h := jw_some h
      exact xo_71 h
def f_rec1 : Nat → Nat → List Int32 → jT → Option (Int32 × jT)
  | 0, _, _, _ => none
  | n + 1, 0, [x1, x2, x3, x4], σ => f_X4_part (f_rec1 n) x1 x2 x3 x4 σ
  | _ + 1, _, _, _ => none
theorem t_rec1 {S : jS} (hS : jCok S) : ∀ (n : Nat), (∀ {x1 : Int32} {x2 : Int32} {x3 : Int32} {x4 : Int32} {σ : jT} {Q : Option Value → jx_H → Prop}, jw (f_rec1 n 0 [x1, x2, x3, x4] σ) (fun q => Q none (jh S q.2)) → jx_Sp (n) 46 [.ref 58, .int x1, .int x2, .int x3, .int x4] (jh S σ) Q) := by
  intro n
  induction n with
  | zero => exact fun h => jw_none h
  | succ n ih =>
    have hr0 := @ih
    have g0 : (∀ {x1 : Int32} {x2 : Int32} {x3 : Int32} {x4 : Int32} {σ : jT} {Q : Option Value → jx_H → Prop}, jw (f_rec1 (n + 1) 0 [x1, x2, x3, x4] σ) (fun q => Q none (jh S q.2)) → jx_Sp (n + 1) 46 [.ref 58, .int x1, .int x2, .int x3, .int x4] (jh S σ) Q) := by
      intro x1 x2 x3 x4 σ Q h
      rw [show n + 1 = n + 1 by omega]
      exact t_X4_part hS hr0 h
    exact @g0
theorem tr_X4_part {S : jS} (hS : jCok S) {d : Nat} {x1 : Int32} {x2 : Int32} {x3 : Int32} {x4 : Int32} {σ : jT} {Q : Option Value → jx_H → Prop} (h : jw (f_rec1 100 0 [x1, x2, x3, x4] σ) (fun q => Q none (jh S q.2))) : jx_Sp (d + 100) 46 [.ref 58, .int x1, .int x2, .int x3, .int x4] (jh S σ) Q := jx_Sp.mono (by omega) ((t_rec1 hS 100) h)
/-- Matching.best, at ['x.matching', 'int'] -/
def f_X4_best_b44 (s0 : Int32) (s1 : Int32) (s2 : Int32) (s3 : Int32) (σ : jT) : Option (Int32 × jT) :=
  (f_rec1 100 0 [s3, s2, s1, s0] σ).bind fun q1 =>
  some ((q1.2.1 3715), q1.2)
def f_X4_best_b7 : Nat → Int32 → Int32 → jT → Option (Int32 × jT)
  | 0, _, _, _ => none
  | n + 1, x1, x2, σ =>
    if 6 ≤ x2 then
      (f_J6_bitCount_0f7a4 x1 σ).bind fun q2 =>
      if (q2.1 - q2.1 / 2 * 2) = 0 then
        f_X4_best_b44 0 0 x1 0 σ
      else
        f_X4_best_b44 1 0 x1 0 σ
    else
      if jx_in x2 6 then
      f_X4_best_b7 n x1 (x2 + 1) (gA σ 60 x2.toNatClampNeg (-1))
      else none
def f_X4_best (x1 : Int32) (σ : jT) : Option (Int32 × jT) :=
  f_X4_best_b7 1000 x1 0 (gs σ 3715 (-1))
theorem t_X4_best_b44 {S : jS} (hS : jCok S) {d : Nat} {Q : Option Value → jx_H → Prop} {s0 : Int32} {s1 : Int32} {s2 : Int32} {s3 : Int32} {w1 : Value} {w2 : Value} {σ : jT} (h : jw (f_X4_best_b44 s0 s1 s2 s3 σ) (fun q => Q (some (.int q.1)) (jh S q.2))) : jx_Ex (d + 101) jm_l45 jm_b45_44 [.ref 58, w1, w2] [.int s0, .int s1, .int s2, .int s3, .ref 58] (jh S σ) Q := by
  unfold f_X4_best_b44 at h
  refine xo_49 (st' := []) rfl rfl (xc_ly hS ly58) rfl (Nat.le_of_ble_eq_true rfl) ?_
  refine tr_X4_part hS ?_
  refine jw_mono (jw_bind h) (fun q1 h => ?_)
  show jx_Ex _ _ _ _ [] (jh S q1.2) _
  refine xo_2 rfl ?_
  refine xc_32 (i := 3715) (v := (q1.2.1 3715)) hS ly58 rfl ⟨Nat.le_of_ble_eq_true rfl, Nat.le_of_ble_eq_true rfl⟩ rfl ?_
  replace h := jw_some h
  exact xo_69 h
theorem t_X4_best_b7 {S : jS} (hS : jCok S) {d : Nat} {Q : Option Value → jx_H → Prop} : ∀ (n : Nat) {x1 : Int32} {x2 : Int32} {σ : jT}, jw (f_X4_best_b7 n x1 x2 σ) (fun q => Q (some (.int q.1)) (jh S q.2)) → jx_Ex (d + 101) jm_l45 jm_b45_7 [.ref 58, .int x1, .int x2] [] (jh S σ) Q := by
  intro n
  induction n with
  | zero => intro x1 x2 σ h; exact jw_none h
  | succ n ih =>
    intro x1 x2 σ h
    rw [f_X4_best_b7] at h
    refine xo_0 rfl ?_
    refine xo_9 ?_
    refine xo_64 (t := jm_b45_26) rfl (fun hc1 => ?_) (fun hc1 => ?_)
    · replace h := jw_pos hc1 h
      refine xo_2 rfl ?_
      refine xo_8 ?_
      refine xo_0 rfl ?_
      refine xo_8 ?_
      refine xo_0 rfl ?_
      refine xo_50 (st' := [.int 0, .int x1, .int 0, .ref 58]) rfl rfl rfl (Nat.le_of_ble_eq_true rfl) ?_
      refine t_J6_bitCount_0f7a4 (S := S) (σ := σ) ?_
      refine jw_mono (jw_bind h) (fun q2 h => ?_)
      show jx_Ex _ _ _ _ [.int q2.1, .int 0, .int x1, .int 0, .ref 58] (jh S σ) _
      refine xo_8 ?_
      refine xo_18 (by decide) ?_
      refine xo_55 (t := jm_b45_43) rfl (fun hc3 => ?_) (fun hc3 => ?_)
      · replace h := jw_pos hc3 h
        refine xo_8 ?_
        exact t_X4_best_b44 hS h
      · replace h := jw_neg hc3 h
        refine xo_8 ?_
        refine xo_54 (t := jm_b45_44) rfl ?_
        exact t_X4_best_b44 hS h
    · replace h := jw_neg hc1 h
      refine xo_2 rfl ?_
      refine xc_33 (i := 3713) (q := 60) hS ly58 rfl (xc_P hS (by decide)) ?_
      refine xo_0 rfl ?_
      refine xo_8 ?_
      obtain ⟨hi4, h⟩ := jw_chk h
      refine xc_41 (j := x2.toNatClampNeg) hS ly60 ⟨Nat.le_of_ble_eq_true rfl, Nat.le_of_ble_eq_true rfl⟩ hi4 rfl ?_
      refine xo_13 (ls' := [.ref 58, .int x1, .int (x2 + 1)]) rfl rfl ?_
      refine xo_54 (t := jm_b45_7) rfl ?_
      exact ih h
theorem t_X4_best {S : jS} (hS : jCok S) {d : Nat} {Q : Option Value → jx_H → Prop} {x1 : Int32} {σ : jT} (h : jw (f_X4_best x1 σ) (fun q => Q (some (.int q.1)) (jh S q.2))) : jx_Sp (d + 101) 45 [.ref 58, .int x1] (jh S σ) Q := by
  refine ⟨jm_i45, jm_at45, rfl, rfl, ?_⟩
  show jx_Ex _ jm_l45 jm_b45_0 [.ref 58, .int x1, .retAddr 0] [] _ _
  unfold f_X4_best at h
  refine xo_2 rfl ?_
  refine xo_8 ?_
  refine xc_34 (i := 3715) hS ly58 rfl ⟨Nat.le_of_ble_eq_true rfl, Nat.le_of_ble_eq_true rfl⟩ ?_
  refine xo_8 ?_
  refine xo_4 (ls' := [.ref 58, .int x1, .int 0]) rfl ?_
  exact t_X4_best_b7 hS 1000 h
/-- Matching.tell, at ['x.matching', 'int', 'x.told'] -/
def f_X4_tell_47_b6 : Nat → Int32 → Int32 → jT → Option (Int32 × jT)
  | 0, _, _, _ => none
  | n + 1, x1, x3, σ =>
    if x1 ≤ x3 then
      some (0, σ)
    else
      if 6 ≤ x3 then
        some (0, σ)
      else
        if jx_in x3 6 then
        (f_X6_put (σ.2 61 x3.toNatClampNeg) σ).bind fun q4 =>
        f_X4_tell_47_b6 n x1 (x3 + 1) q4.2
        else none
def f_X4_tell_47 (x1 : Int32) (σ : jT) : Option (Int32 × jT) :=
  (f_X6_clear σ).bind fun q1 =>
  f_X4_tell_47_b6 1000 x1 0 q1.2
theorem t_X4_tell_47_b6 {S : jS} (hS : jCok S) {d : Nat} {Q : Option Value → jx_H → Prop} : ∀ (n : Nat) {x1 : Int32} {x3 : Int32} {σ : jT}, jw (f_X4_tell_47_b6 n x1 x3 σ) (fun q => Q none (jh S q.2)) → jx_Ex (d + 1) jm_l47 jm_b47_6 [.ref 58, .int x1, .ref 47, .int x3] [] (jh S σ) Q := by
  intro n
  induction n with
  | zero => intro x1 x3 σ h; exact jw_none h
  | succ n ih =>
    intro x1 x3 σ h
    rw [f_X4_tell_47_b6] at h
    refine xo_0 rfl ?_
    refine xo_0 rfl ?_
    refine xo_64 (t := jm_b47_33) rfl (fun hc1 => ?_) (fun hc1 => ?_)
    · replace h := jw_pos hc1 h
      replace h := jw_some h
      exact xo_71 h
    · replace h := jw_neg hc1 h
      refine xo_0 rfl ?_
      refine xo_9 ?_
      refine xo_64 (t := jm_b47_33) rfl (fun hc2 => ?_) (fun hc2 => ?_)
      · replace h := jw_pos hc2 h
        replace h := jw_some h
        exact xo_71 h
      · replace h := jw_neg hc2 h
        refine xo_2 rfl ?_
        refine xo_2 rfl ?_
        refine xc_33 (i := 3714) (q := 61) hS ly58 rfl (xc_P hS (by decide)) ?_
        refine xo_0 rfl ?_
        obtain ⟨hi3, h⟩ := jw_chk h
        refine xc_38 (j := x3.toNatClampNeg) (v := (σ.2 61 x3.toNatClampNeg)) hS ly61 ⟨Nat.le_of_ble_eq_true rfl, Nat.le_of_ble_eq_true rfl⟩ hi3 rfl rfl ?_
        refine xo_49 (st' := []) rfl rfl (xc_ly hS ly47) rfl (Nat.le_of_ble_eq_true rfl) ?_
        refine t_X6_put hS ?_
        refine jw_mono (jw_bind h) (fun q4 h => ?_)
        show jx_Ex _ _ _ _ [] (jh S q4.2) _
        refine xo_13 (ls' := [.ref 58, .int x1, .ref 47, .int (x3 + 1)]) rfl rfl ?_
        refine xo_54 (t := jm_b47_6) rfl ?_
        exact ih h
theorem t_X4_tell_47 {S : jS} (hS : jCok S) {d : Nat} {Q : Option Value → jx_H → Prop} {x1 : Int32} {σ : jT} (h : jw (f_X4_tell_47 x1 σ) (fun q => Q none (jh S q.2))) : jx_Sp (d + 1) 47 [.ref 58, .int x1, .ref 47] (jh S σ) Q := by
  refine ⟨jm_i47, jm_at47, rfl, rfl, ?_⟩
  show jx_Ex _ jm_l47 jm_b47_0 [.ref 58, .int x1, .ref 47, .retAddr 0] [] _ _
  unfold f_X4_tell_47 at h
  refine xo_2 rfl ?_
  refine xo_49 (st' := []) rfl rfl (xc_ly hS ly47) rfl (Nat.le_of_ble_eq_true rfl) ?_
  refine t_X6_clear hS ?_
  refine jw_mono (jw_bind h) (fun q1 h => ?_)
  show jx_Ex _ _ _ _ [] (jh S q1.2) _
  refine xo_8 ?_
  refine xo_4 (ls' := [.ref 58, .int x1, .ref 47, .int 0]) rfl ?_
  exact t_X4_tell_47_b6 hS 1000 h
/-- Matching.setSteps, at ['x.matching', 'int', 'int', 'int'] -/
def f_X4_setSteps (x1 : Int32) (x2 : Int32) (x3 : Int32) (σ : jT) : Option (Int32 × jT) :=
  if x1 < 0 then
    some (0, σ)
  else
    if 6 ≤ x1 then
      some (0, σ)
    else
      if x2 < 0 then
        some (0, σ)
      else
        if 6 ≤ x2 then
          some (0, σ)
        else
          if jx_in ((x1 * 6) + x2) 36 then
          some (0, (gA σ 59 ((x1 * 6) + x2).toNatClampNeg x3))
          else none
theorem t_X4_setSteps {S : jS} (hS : jCok S) {d : Nat} {Q : Option Value → jx_H → Prop} {x1 : Int32} {x2 : Int32} {x3 : Int32} {σ : jT} (h : jw (f_X4_setSteps x1 x2 x3 σ) (fun q => Q none (jh S q.2))) : jx_Sp (d) 44 [.ref 58, .int x1, .int x2, .int x3] (jh S σ) Q := by
  refine ⟨jm_i44, jm_at44, rfl, rfl, ?_⟩
  show jx_Ex _ jm_l44 jm_b44_0 [.ref 58, .int x1, .int x2, .int x3] [] _ _
  unfold f_X4_setSteps at h
  refine xo_0 rfl ?_
  refine xo_57 (t := jm_b44_32) rfl (fun hc1 => ?_) (fun hc1 => ?_)
  · replace h := jw_pos hc1 h
    replace h := jw_some h
    exact xo_71 h
  · replace h := jw_neg hc1 h
    refine xo_0 rfl ?_
    refine xo_9 ?_
    refine xo_64 (t := jm_b44_32) rfl (fun hc2 => ?_) (fun hc2 => ?_)
    · replace h := jw_pos hc2 h
      replace h := jw_some h
      exact xo_71 h
    · replace h := jw_neg hc2 h
      refine xo_0 rfl ?_
      refine xo_57 (t := jm_b44_32) rfl (fun hc3 => ?_) (fun hc3 => ?_)
      · replace h := jw_pos hc3 h
        replace h := jw_some h
        exact xo_71 h
      · replace h := jw_neg hc3 h
        refine xo_0 rfl ?_
        refine xo_9 ?_
        refine xo_64 (t := jm_b44_32) rfl (fun hc4 => ?_) (fun hc4 => ?_)
        · replace h := jw_pos hc4 h
          replace h := jw_some h
          exact xo_71 h
        · replace h := jw_neg hc4 h
          refine xo_2 rfl ?_
          refine xc_33 (i := 3712) (q := 59) hS ly58 rfl (xc_P hS (by decide)) ?_
          refine xo_0 rfl ?_
          refine xo_9 ?_
          refine xo_16 ?_
          refine xo_0 rfl ?_
          refine xo_14 ?_
          refine xo_0 rfl ?_
          obtain ⟨hi5, h⟩ := jw_chk h
          refine xc_41 (j := ((x1 * 6) + x2).toNatClampNeg) hS ly59 ⟨Nat.le_of_ble_eq_true rfl, Nat.le_of_ble_eq_true rfl⟩ hi5 rfl ?_
          replace h := jw_some h
          exact xo_71 h
/-- OfDifferentMinds.matches, at ['x', 'int', 'int'] -/
def f_X10_matches_b98 (k42 : Int32 → Int32 → Int32 → Int32 → jT → Option (Int32 × jT)) (x1 : Int32) (x2 : Int32) (x3 : Int32) (x4 : Int32) (s0 : Int32) (s1 : Int32) (s2 : Int32) (σ : jT) : Option (Int32 × jT) :=
  (f_X4_setSteps s2 s1 s0 σ).bind fun q1 =>
  k42 x1 x2 x3 (x4 + 1) q1.2
def f_X10_matches_b72 (k42 : Int32 → Int32 → Int32 → Int32 → jT → Option (Int32 × jT)) (x1 : Int32) (x2 : Int32) (x3 : Int32) (x4 : Int32) (s0 : Int32) (σ : jT) : Option (Int32 × jT) :=
  if s0 = 0 then
    f_X10_matches_b98 k42 x1 x2 x3 x4 0 x4 x3 σ
  else
    (f_X10_stepsOf x3 x4 x2 σ).bind fun q2 =>
    f_X10_matches_b98 k42 x1 x2 x3 x4 q2.1 x4 x3 q2.2
def f_X10_matches_b42 (k26 : Int32 → Int32 → Int32 → jT → Option (Int32 × jT)) : Nat → Int32 → Int32 → Int32 → Int32 → jT → Option (Int32 × jT)
  | 0, _, _, _, _, _ => none
  | n + 1, x1, x2, x3, x4, σ =>
    (f_X3_riderCount σ).bind fun q1 =>
    if q1.1 ≤ x4 then
      k26 x1 x2 (x3 + 1) q1.2
    else
      if (((x1 >>> (x3 &&& 31)) &&& (x1 >>> (x4 &&& 31))) &&& 1) = 0 then
        f_X10_matches_b72 (f_X10_matches_b42 k26 n) x1 x2 x3 x4 0 q1.2
      else
        f_X10_matches_b72 (f_X10_matches_b42 k26 n) x1 x2 x3 x4 1 q1.2
def f_X10_matches_b26 : Nat → Int32 → Int32 → Int32 → jT → Option (Int32 × jT)
  | 0, _, _, _, _ => none
  | n + 1, x1, x2, x3, σ =>
    (f_X3_riderCount σ).bind fun q1 =>
    if q1.1 ≤ x3 then
      (f_X4_best x1 q1.2).bind fun q3 =>
      (f_X3_riderCount q3.2).bind fun q4 =>
      (f_X4_tell_47 q4.1 q4.2).bind fun q5 =>
      some (q3.1, q5.2)
    else
      f_X10_matches_b42 (f_X10_matches_b26 n) 1000 x1 x2 x3 (x3 + 1) q1.2
def f_X10_matches (x1 : Int32) (x2 : Int32) (σ : jT) : Option (Int32 × jT) :=
  (f_X3_hasRiders x1 σ).bind fun q1 =>
  if q1.1 = 0 then
    some ((-1), q1.2)
  else
    (f_X3_hasPlace x2 q1.2).bind fun q3 =>
    if ¬ q3.1 = 0 then
      f_X10_matches_b26 1000 x1 x2 0 q3.2
    else
      some ((-1), q3.2)
theorem t_X10_matches_b98 {S : jS} (hS : jCok S) {d : Nat} {Q : Option Value → jx_H → Prop} {k42 : Int32 → Int32 → Int32 → Int32 → jT → Option (Int32 × jT)} (hk42 : ∀ {x1 : Int32} {x2 : Int32} {x3 : Int32} {x4 : Int32} {w5 : Value} {σ : jT}, jw (k42 x1 x2 x3 x4 σ) (fun q => Q (some (.int q.1)) (jh S q.2)) → jx_Ex (d + 102) jm_l175 jm_b175_42 [.ref 0, .int x1, .int x2, .int x3, .int x4, w5] [] (jh S σ) Q) {x1 : Int32} {x2 : Int32} {x3 : Int32} {x4 : Int32} {s0 : Int32} {s1 : Int32} {s2 : Int32} {w5 : Value} {σ : jT} (h : jw (f_X10_matches_b98 k42 x1 x2 x3 x4 s0 s1 s2 σ) (fun q => Q (some (.int q.1)) (jh S q.2))) : jx_Ex (d + 102) jm_l175 jm_b175_98 [.ref 0, .int x1, .int x2, .int x3, .int x4, w5] [.int s0, .int s1, .int s2, .ref 58] (jh S σ) Q := by
  unfold f_X10_matches_b98 at h
  refine xo_49 (st' := []) rfl rfl (xc_ly hS ly58) rfl (Nat.le_of_ble_eq_true rfl) ?_
  refine t_X4_setSteps hS ?_
  refine jw_mono (jw_bind h) (fun q1 h => ?_)
  show jx_Ex _ _ _ _ [] (jh S q1.2) _
  refine xo_13 (ls' := [.ref 0, .int x1, .int x2, .int x3, .int (x4 + 1), w5]) rfl rfl ?_
  refine xo_54 (t := jm_b175_42) rfl ?_
  exact hk42 h
theorem t_X10_matches_b72 {S : jS} (hS : jCok S) {d : Nat} {Q : Option Value → jx_H → Prop} {k42 : Int32 → Int32 → Int32 → Int32 → jT → Option (Int32 × jT)} (hk42 : ∀ {x1 : Int32} {x2 : Int32} {x3 : Int32} {x4 : Int32} {w5 : Value} {σ : jT}, jw (k42 x1 x2 x3 x4 σ) (fun q => Q (some (.int q.1)) (jh S q.2)) → jx_Ex (d + 102) jm_l175 jm_b175_42 [.ref 0, .int x1, .int x2, .int x3, .int x4, w5] [] (jh S σ) Q) {x1 : Int32} {x2 : Int32} {x3 : Int32} {x4 : Int32} {s0 : Int32} {w5 : Value} {σ : jT} (h : jw (f_X10_matches_b72 k42 x1 x2 x3 x4 s0 σ) (fun q => Q (some (.int q.1)) (jh S q.2))) : jx_Ex (d + 102) jm_l175 jm_b175_72 [.ref 0, .int x1, .int x2, .int x3, .int x4, w5] [.int s0] (jh S σ) Q := by
  unfold f_X10_matches_b72 at h
  refine xo_5 (ls' := [.ref 0, .int x1, .int x2, .int x3, .int x4, .int s0]) rfl ?_
  refine xo_2 rfl ?_
  refine xc_33 (i := 8) (q := 58) hS ly0 rfl (xc_P hS (by decide)) ?_
  refine xo_0 rfl ?_
  refine xo_1 rfl ?_
  refine xo_1 rfl ?_
  refine xo_55 (t := jm_b175_97) rfl (fun hc1 => ?_) (fun hc1 => ?_)
  · replace h := jw_pos hc1 h
    refine xo_8 ?_
    exact t_X10_matches_b98 hS hk42 h
  · replace h := jw_neg hc1 h
    refine xo_2 rfl ?_
    refine xo_0 rfl ?_
    refine xo_1 rfl ?_
    refine xo_0 rfl ?_
    refine xo_49 (st' := [.int x4, .int x3, .ref 58]) rfl rfl (xc_ly hS ly0) rfl (Nat.le_of_ble_eq_true rfl) ?_
    refine t_X10_stepsOf hS ?_
    refine jw_mono (jw_bind h) (fun q2 h => ?_)
    show jx_Ex _ _ _ _ [.int q2.1, .int x4, .int x3, .ref 58] (jh S q2.2) _
    refine xo_54 (t := jm_b175_98) rfl ?_
    exact t_X10_matches_b98 hS hk42 h
theorem t_X10_matches_b42 {S : jS} (hS : jCok S) {d : Nat} {Q : Option Value → jx_H → Prop} {k26 : Int32 → Int32 → Int32 → jT → Option (Int32 × jT)} (hk26 : ∀ {x1 : Int32} {x2 : Int32} {x3 : Int32} {w4 : Value} {w5 : Value} {σ : jT}, jw (k26 x1 x2 x3 σ) (fun q => Q (some (.int q.1)) (jh S q.2)) → jx_Ex (d + 102) jm_l175 jm_b175_26 [.ref 0, .int x1, .int x2, .int x3, w4, w5] [] (jh S σ) Q) : ∀ (n : Nat) {x1 : Int32} {x2 : Int32} {x3 : Int32} {x4 : Int32} {w5 : Value} {σ : jT}, jw (f_X10_matches_b42 k26 n x1 x2 x3 x4 σ) (fun q => Q (some (.int q.1)) (jh S q.2)) → jx_Ex (d + 102) jm_l175 jm_b175_42 [.ref 0, .int x1, .int x2, .int x3, .int x4, w5] [] (jh S σ) Q := by
  intro n
  induction n with
  | zero => intro x1 x2 x3 x4 w5 σ h; exact jw_none h
  | succ n ih =>
    intro x1 x2 x3 x4 w5 σ h
    rw [f_X10_matches_b42] at h
    refine xo_1 rfl ?_
    refine xo_2 rfl ?_
    refine xc_33 (i := 1) (q := 3) hS ly0 rfl (xc_P hS (by decide)) ?_
    refine xo_49 (st' := [.int x4]) rfl rfl (xc_ly hS ly3) rfl (Nat.le_of_ble_eq_true rfl) ?_
    refine t_X3_riderCount hS ?_
    refine jw_mono (jw_bind h) (fun q1 h => ?_)
    show jx_Ex _ _ _ _ [.int q1.1, .int x4] (jh S q1.2) _
    refine xo_64 (t := jm_b175_107) rfl (fun hc2 => ?_) (fun hc2 => ?_)
    · replace h := jw_pos hc2 h
      refine xo_13 (ls' := [.ref 0, .int x1, .int x2, .int (x3 + 1), .int x4, w5]) rfl rfl ?_
      refine xo_54 (t := jm_b175_26) rfl ?_
      exact hk26 h
    · replace h := jw_neg hc2 h
      refine xo_0 rfl ?_
      refine xo_0 rfl ?_
      refine xo_24 ?_
      refine xo_0 rfl ?_
      refine xo_1 rfl ?_
      refine xo_24 ?_
      refine xo_20 ?_
      refine xo_8 ?_
      refine xo_20 ?_
      refine xo_55 (t := jm_b175_71) rfl (fun hc3 => ?_) (fun hc3 => ?_)
      · replace h := jw_pos hc3 h
        refine xo_8 ?_
        exact t_X10_matches_b72 hS ih h
      · replace h := jw_neg hc3 h
        refine xo_8 ?_
        refine xo_54 (t := jm_b175_72) rfl ?_
        exact t_X10_matches_b72 hS ih h
theorem t_X10_matches_b26 {S : jS} (hS : jCok S) {d : Nat} {Q : Option Value → jx_H → Prop} : ∀ (n : Nat) {x1 : Int32} {x2 : Int32} {x3 : Int32} {w4 : Value} {w5 : Value} {σ : jT}, jw (f_X10_matches_b26 n x1 x2 x3 σ) (fun q => Q (some (.int q.1)) (jh S q.2)) → jx_Ex (d + 102) jm_l175 jm_b175_26 [.ref 0, .int x1, .int x2, .int x3, w4, w5] [] (jh S σ) Q := by
  intro n
  induction n with
  | zero => intro x1 x2 x3 w4 w5 σ h; exact jw_none h
  | succ n ih =>
    intro x1 x2 x3 w4 w5 σ h
    rw [f_X10_matches_b26] at h
    refine xo_0 rfl ?_
    refine xo_2 rfl ?_
    refine xc_33 (i := 1) (q := 3) hS ly0 rfl (xc_P hS (by decide)) ?_
    refine xo_49 (st' := [.int x3]) rfl rfl (xc_ly hS ly3) rfl (Nat.le_of_ble_eq_true rfl) ?_
    refine t_X3_riderCount hS ?_
    refine jw_mono (jw_bind h) (fun q1 h => ?_)
    show jx_Ex _ _ _ _ [.int q1.1, .int x3] (jh S q1.2) _
    refine xo_64 (t := jm_b175_113) rfl (fun hc2 => ?_) (fun hc2 => ?_)
    · replace h := jw_pos hc2 h
      refine xo_2 rfl ?_
      refine xc_33 (i := 8) (q := 58) hS ly0 rfl (xc_P hS (by decide)) ?_
      refine xo_0 rfl ?_
      refine xo_49 (st' := []) rfl rfl (xc_ly hS ly58) rfl (Nat.le_of_ble_eq_true rfl) ?_
      refine t_X4_best hS ?_
      refine jw_mono (jw_bind h) (fun q3 h => ?_)
      show jx_Ex _ _ _ _ [.int q3.1] (jh S q3.2) _
      refine xo_4 (ls' := [.ref 0, .int x1, .int x2, .int q3.1, w4, w5]) rfl ?_
      refine xo_2 rfl ?_
      refine xc_33 (i := 8) (q := 58) hS ly0 rfl (xc_P hS (by decide)) ?_
      refine xo_2 rfl ?_
      refine xc_33 (i := 1) (q := 3) hS ly0 rfl (xc_P hS (by decide)) ?_
      refine xo_49 (st' := [.ref 58]) rfl rfl (xc_ly hS ly3) rfl (Nat.le_of_ble_eq_true rfl) ?_
      refine t_X3_riderCount hS ?_
      refine jw_mono (jw_bind h) (fun q4 h => ?_)
      show jx_Ex _ _ _ _ [.int q4.1, .ref 58] (jh S q4.2) _
      refine xo_2 rfl ?_
      refine xc_33 (i := 5) (q := 47) hS ly0 rfl (xc_P hS (by decide)) ?_
      refine xo_49 (st' := []) rfl rfl (xc_ly hS ly58) rfl (Nat.le_of_ble_eq_true rfl) ?_
      refine t_X4_tell_47 hS ?_
      refine jw_mono (jw_bind h) (fun q5 h => ?_)
      show jx_Ex _ _ _ _ [] (jh S q5.2) _
      refine xo_0 rfl ?_
      replace h := jw_some h
      exact xo_69 h
    · replace h := jw_neg hc2 h
      refine xo_0 rfl ?_
      refine xo_8 ?_
      refine xo_14 ?_
      refine xo_5 (ls' := [.ref 0, .int x1, .int x2, .int x3, .int (x3 + 1), w5]) rfl ?_
      exact t_X10_matches_b42 hS ih 1000 h
theorem t_X10_matches {S : jS} (hS : jCok S) {d : Nat} {Q : Option Value → jx_H → Prop} {x1 : Int32} {x2 : Int32} {σ : jT} (h : jw (f_X10_matches x1 x2 σ) (fun q => Q (some (.int q.1)) (jh S q.2))) : jx_Sp (d + 102) 175 [.ref 0, .int x1, .int x2] (jh S σ) Q := by
  refine ⟨jm_i175, jm_at175, rfl, rfl, ?_⟩
  show jx_Ex _ jm_l175 jm_b175_0 [.ref 0, .int x1, .int x2, .retAddr 0, .retAddr 0, .retAddr 0] [] _ _
  unfold f_X10_matches at h
  refine xo_2 rfl ?_
  refine xc_33 (i := 1) (q := 3) hS ly0 rfl (xc_P hS (by decide)) ?_
  refine xo_0 rfl ?_
  refine xo_49 (st' := []) rfl rfl (xc_ly hS ly3) rfl (Nat.le_of_ble_eq_true rfl) ?_
  refine t_X3_hasRiders hS ?_
  refine jw_mono (jw_bind h) (fun q1 h => ?_)
  show jx_Ex _ _ _ _ [.int q1.1] (jh S q1.2) _
  refine xo_55 (t := jm_b175_22) rfl (fun hc2 => ?_) (fun hc2 => ?_)
  · replace h := jw_pos hc2 h
    refine xo_8 ?_
    replace h := jw_some h
    exact xo_69 h
  · replace h := jw_neg hc2 h
    refine xo_2 rfl ?_
    refine xc_33 (i := 1) (q := 3) hS ly0 rfl (xc_P hS (by decide)) ?_
    refine xo_0 rfl ?_
    refine xo_49 (st' := []) rfl rfl (xc_ly hS ly3) rfl (Nat.le_of_ble_eq_true rfl) ?_
    refine t_X3_hasPlace hS ?_
    refine jw_mono (jw_bind h) (fun q3 h => ?_)
    show jx_Ex _ _ _ _ [.int q3.1] (jh S q3.2) _
    refine xo_56 (t := jm_b175_24) rfl (fun hc4 => ?_) (fun hc4 => ?_)
    · replace h := jw_pos hc4 h
      refine xo_8 ?_
      refine xo_4 (ls' := [.ref 0, .int x1, .int x2, .int 0, .retAddr 0, .retAddr 0]) rfl ?_
      exact t_X10_matches_b26 hS 1000 h
    · replace h := jw_neg hc4 h
      refine xo_8 ?_
      replace h := jw_some h
      exact xo_69 h
/-- OfDifferentMinds.partner, at ['x', 'int', 'int'] -/
def f_X10_partner_b77 (k32 : Int32 → Int32 → Int32 → Int32 → Int32 → jT → Option (Int32 × jT)) (x1 : Int32) (x2 : Int32) (x3 : Int32) (x4 : Int32) (x5 : Int32) (σ : jT) : Option (Int32 × jT) :=
  k32 x1 x2 x3 x4 (x5 + 1) σ
def f_X10_partner_b62 (k32 : Int32 → Int32 → Int32 → Int32 → Int32 → jT → Option (Int32 × jT)) (x1 : Int32) (x2 : Int32) (x3 : Int32) (x4 : Int32) (x5 : Int32) (s0 : Int32) (σ : jT) : Option (Int32 × jT) :=
  if s0 ≤ x3 then
    f_X10_partner_b77 k32 x1 x2 x3 x4 x5 σ
  else
    f_X10_partner_b77 k32 x1 x2 s0 x5 x5 σ
def f_X10_partner_b32 : Nat → Int32 → Int32 → Int32 → Int32 → Int32 → jT → Option (Int32 × jT)
  | 0, _, _, _, _, _, _ => none
  | n + 1, x1, x2, x3, x4, x5, σ =>
    (f_X3_riderCount σ).bind fun q1 =>
    if q1.1 ≤ x5 then
      if ¬ x4 = (-1) then
        (f_X6_tell x3 q1.2).bind fun q4 =>
        some (x4, q4.2)
      else
        some ((-2), q1.2)
    else
      if ¬ x5 = x1 then
        (f_X10_stepsOf x1 x5 x2 q1.2).bind fun q6 =>
        f_X10_partner_b62 (f_X10_partner_b32 n) x1 x2 x3 x4 x5 q6.1 q6.2
      else
        f_X10_partner_b62 (f_X10_partner_b32 n) x1 x2 x3 x4 x5 (-1) q1.2
def f_X10_partner (x1 : Int32) (x2 : Int32) (σ : jT) : Option (Int32 × jT) :=
  (f_X3_hasRider x1 σ).bind fun q1 =>
  if q1.1 = 0 then
    some ((-1), q1.2)
  else
    (f_X3_hasPlace x2 q1.2).bind fun q3 =>
    if ¬ q3.1 = 0 then
      f_X10_partner_b32 1000 x1 x2 (-1) (-1) 0 q3.2
    else
      some ((-1), q3.2)
theorem t_X10_partner_b77 {S : jS} (hS : jCok S) {d : Nat} {Q : Option Value → jx_H → Prop} {k32 : Int32 → Int32 → Int32 → Int32 → Int32 → jT → Option (Int32 × jT)} (hk32 : ∀ {x1 : Int32} {x2 : Int32} {x3 : Int32} {x4 : Int32} {x5 : Int32} {w6 : Value} {σ : jT}, jw (k32 x1 x2 x3 x4 x5 σ) (fun q => Q (some (.int q.1)) (jh S q.2)) → jx_Ex (d + 6) jm_l176 jm_b176_32 [.ref 0, .int x1, .int x2, .int x3, .int x4, .int x5, w6] [] (jh S σ) Q) {x1 : Int32} {x2 : Int32} {x3 : Int32} {x4 : Int32} {x5 : Int32} {w6 : Value} {σ : jT} (h : jw (f_X10_partner_b77 k32 x1 x2 x3 x4 x5 σ) (fun q => Q (some (.int q.1)) (jh S q.2))) : jx_Ex (d + 6) jm_l176 jm_b176_77 [.ref 0, .int x1, .int x2, .int x3, .int x4, .int x5, w6] [] (jh S σ) Q := by
  unfold f_X10_partner_b77 at h
  refine xo_13 (ls' := [.ref 0, .int x1, .int x2, .int x3, .int x4, .int (x5 + 1), w6]) rfl rfl ?_
  refine xo_54 (t := jm_b176_32) rfl ?_
  exact hk32 h
theorem t_X10_partner_b62 {S : jS} (hS : jCok S) {d : Nat} {Q : Option Value → jx_H → Prop} {k32 : Int32 → Int32 → Int32 → Int32 → Int32 → jT → Option (Int32 × jT)} (hk32 : ∀ {x1 : Int32} {x2 : Int32} {x3 : Int32} {x4 : Int32} {x5 : Int32} {w6 : Value} {σ : jT}, jw (k32 x1 x2 x3 x4 x5 σ) (fun q => Q (some (.int q.1)) (jh S q.2)) → jx_Ex (d + 6) jm_l176 jm_b176_32 [.ref 0, .int x1, .int x2, .int x3, .int x4, .int x5, w6] [] (jh S σ) Q) {x1 : Int32} {x2 : Int32} {x3 : Int32} {x4 : Int32} {x5 : Int32} {s0 : Int32} {w6 : Value} {σ : jT} (h : jw (f_X10_partner_b62 k32 x1 x2 x3 x4 x5 s0 σ) (fun q => Q (some (.int q.1)) (jh S q.2))) : jx_Ex (d + 6) jm_l176 jm_b176_62 [.ref 0, .int x1, .int x2, .int x3, .int x4, .int x5, w6] [.int s0] (jh S σ) Q := by
  unfold f_X10_partner_b62 at h
  refine xo_5 (ls' := [.ref 0, .int x1, .int x2, .int x3, .int x4, .int x5, .int s0]) rfl ?_
  refine xo_1 rfl ?_
  refine xo_0 rfl ?_
  refine xo_66 (t := jm_b176_77) rfl (fun hc1 => ?_) (fun hc1 => ?_)
  · replace h := jw_pos hc1 h
    exact t_X10_partner_b77 hS hk32 h
  · replace h := jw_neg hc1 h
    refine xo_1 rfl ?_
    refine xo_4 (ls' := [.ref 0, .int x1, .int x2, .int s0, .int x4, .int x5, .int s0]) rfl ?_
    refine xo_1 rfl ?_
    refine xo_5 (ls' := [.ref 0, .int x1, .int x2, .int s0, .int x5, .int x5, .int s0]) rfl ?_
    exact t_X10_partner_b77 hS hk32 h
theorem t_X10_partner_b32 {S : jS} (hS : jCok S) {d : Nat} {Q : Option Value → jx_H → Prop} : ∀ (n : Nat) {x1 : Int32} {x2 : Int32} {x3 : Int32} {x4 : Int32} {x5 : Int32} {w6 : Value} {σ : jT}, jw (f_X10_partner_b32 n x1 x2 x3 x4 x5 σ) (fun q => Q (some (.int q.1)) (jh S q.2)) → jx_Ex (d + 6) jm_l176 jm_b176_32 [.ref 0, .int x1, .int x2, .int x3, .int x4, .int x5, w6] [] (jh S σ) Q := by
  intro n
  induction n with
  | zero => intro x1 x2 x3 x4 x5 w6 σ h; exact jw_none h
  | succ n ih =>
    intro x1 x2 x3 x4 x5 w6 σ h
    rw [f_X10_partner_b32] at h
    refine xo_1 rfl ?_
    refine xo_2 rfl ?_
    refine xc_33 (i := 1) (q := 3) hS ly0 rfl (xc_P hS (by decide)) ?_
    refine xo_49 (st' := [.int x5]) rfl rfl (xc_ly hS ly3) rfl (Nat.le_of_ble_eq_true rfl) ?_
    refine t_X3_riderCount hS ?_
    refine jw_mono (jw_bind h) (fun q1 h => ?_)
    show jx_Ex _ _ _ _ [.int q1.1, .int x5] (jh S q1.2) _
    refine xo_64 (t := jm_b176_83) rfl (fun hc2 => ?_) (fun hc2 => ?_)
    · replace h := jw_pos hc2 h
      refine xo_1 rfl ?_
      refine xo_8 ?_
      refine xo_62 (t := jm_b176_92) rfl (fun hc3 => ?_) (fun hc3 => ?_)
      · replace h := jw_pos hc3 h
        refine xo_2 rfl ?_
        refine xc_33 (i := 5) (q := 47) hS ly0 rfl (xc_P hS (by decide)) ?_
        refine xo_0 rfl ?_
        refine xo_49 (st' := []) rfl rfl (xc_ly hS ly47) rfl (Nat.le_of_ble_eq_true rfl) ?_
        refine t_X6_tell hS ?_
        refine jw_mono (jw_bind h) (fun q4 h => ?_)
        show jx_Ex _ _ _ _ [] (jh S q4.2) _
        refine xo_1 rfl ?_
        replace h := jw_some h
        exact xo_69 h
      · replace h := jw_neg hc3 h
        refine xo_9 ?_
        replace h := jw_some h
        exact xo_69 h
    · replace h := jw_neg hc2 h
      refine xo_1 rfl ?_
      refine xo_0 rfl ?_
      refine xo_62 (t := jm_b176_54) rfl (fun hc5 => ?_) (fun hc5 => ?_)
      · replace h := jw_pos hc5 h
        refine xo_2 rfl ?_
        refine xo_0 rfl ?_
        refine xo_1 rfl ?_
        refine xo_0 rfl ?_
        refine xo_49 (st' := []) rfl rfl (xc_ly hS ly0) rfl (Nat.le_of_ble_eq_true rfl) ?_
        refine t_X10_stepsOf hS ?_
        refine jw_mono (jw_bind h) (fun q6 h => ?_)
        show jx_Ex _ _ _ _ [.int q6.1] (jh S q6.2) _
        exact t_X10_partner_b62 hS ih h
      · replace h := jw_neg hc5 h
        refine xo_8 ?_
        refine xo_54 (t := jm_b176_62) rfl ?_
        exact t_X10_partner_b62 hS ih h
theorem t_X10_partner {S : jS} (hS : jCok S) {d : Nat} {Q : Option Value → jx_H → Prop} {x1 : Int32} {x2 : Int32} {σ : jT} (h : jw (f_X10_partner x1 x2 σ) (fun q => Q (some (.int q.1)) (jh S q.2))) : jx_Sp (d + 6) 176 [.ref 0, .int x1, .int x2] (jh S σ) Q := by
  refine ⟨jm_i176, jm_at176, rfl, rfl, ?_⟩
  show jx_Ex _ jm_l176 jm_b176_0 [.ref 0, .int x1, .int x2, .retAddr 0, .retAddr 0, .retAddr 0, .retAddr 0] [] _ _
  unfold f_X10_partner at h
  refine xo_2 rfl ?_
  refine xc_33 (i := 1) (q := 3) hS ly0 rfl (xc_P hS (by decide)) ?_
  refine xo_0 rfl ?_
  refine xo_49 (st' := []) rfl rfl (xc_ly hS ly3) rfl (Nat.le_of_ble_eq_true rfl) ?_
  refine t_X3_hasRider hS ?_
  refine jw_mono (jw_bind h) (fun q1 h => ?_)
  show jx_Ex _ _ _ _ [.int q1.1] (jh S q1.2) _
  refine xo_55 (t := jm_b176_22) rfl (fun hc2 => ?_) (fun hc2 => ?_)
  · replace h := jw_pos hc2 h
    refine xo_8 ?_
    replace h := jw_some h
    exact xo_69 h
  · replace h := jw_neg hc2 h
    refine xo_2 rfl ?_
    refine xc_33 (i := 1) (q := 3) hS ly0 rfl (xc_P hS (by decide)) ?_
    refine xo_0 rfl ?_
    refine xo_49 (st' := []) rfl rfl (xc_ly hS ly3) rfl (Nat.le_of_ble_eq_true rfl) ?_
    refine t_X3_hasPlace hS ?_
    refine jw_mono (jw_bind h) (fun q3 h => ?_)
    show jx_Ex _ _ _ _ [.int q3.1] (jh S q3.2) _
    refine xo_56 (t := jm_b176_24) rfl (fun hc4 => ?_) (fun hc4 => ?_)
    · replace h := jw_pos hc4 h
      refine xo_8 ?_
      refine xo_4 (ls' := [.ref 0, .int x1, .int x2, .int (-1), .retAddr 0, .retAddr 0, .retAddr 0]) rfl ?_
      refine xo_8 ?_
      refine xo_5 (ls' := [.ref 0, .int x1, .int x2, .int (-1), .int (-1), .retAddr 0, .retAddr 0]) rfl ?_
      refine xo_8 ?_
      refine xo_5 (ls' := [.ref 0, .int x1, .int x2, .int (-1), .int (-1), .int 0, .retAddr 0]) rfl ?_
      exact t_X10_partner_b32 hS 1000 h
    · replace h := jw_neg hc4 h
      refine xo_8 ?_
      replace h := jw_some h
      exact xo_69 h
/-- OfDifferentMinds.agree, at ['x', 'int', 'int'] -/
def f_X10_agree_b52 (k16 : Int32 → Int32 → Int32 → Int32 → jT → Option (Int32 × jT)) (x1 : Int32) (x2 : Int32) (x3 : Int32) (x4 : Int32) (σ : jT) : Option (Int32 × jT) :=
  k16 x1 x2 x3 (x4 + 1) σ
def f_X10_agree_b16 : Nat → Int32 → Int32 → Int32 → Int32 → jT → Option (Int32 × jT)
  | 0, _, _, _, _, _ => none
  | n + 1, x1, x2, x3, x4, σ =>
    (f_X3_places σ).bind fun q1 =>
    if q1.1 ≤ x4 then
      (f_J6_bitCount_0f7a4 x3 q1.2).bind fun q3 =>
      (f_X6_tell q3.1 q1.2).bind fun q4 =>
      some (x3, q4.2)
    else
      (f_X10_viewAt x1 x4 q1.2).bind fun q5 =>
      (f_X10_viewAt x2 x4 q5.2).bind fun q6 =>
      if ¬ q5.1 = q6.1 then
        f_X10_agree_b52 (f_X10_agree_b16 n) x1 x2 x3 x4 q6.2
      else
        f_X10_agree_b52 (f_X10_agree_b16 n) x1 x2 (x3 ||| (1 <<< (x4 &&& 31))) x4 q6.2
def f_X10_agree (x1 : Int32) (x2 : Int32) (σ : jT) : Option (Int32 × jT) :=
  (f_X10_areTwo x1 x2 σ).bind fun q1 =>
  if ¬ q1.1 = 0 then
    f_X10_agree_b16 1000 x1 x2 0 0 q1.2
  else
    some ((-1), q1.2)
theorem t_X10_agree_b52 {S : jS} (hS : jCok S) {d : Nat} {Q : Option Value → jx_H → Prop} {k16 : Int32 → Int32 → Int32 → Int32 → jT → Option (Int32 × jT)} (hk16 : ∀ {x1 : Int32} {x2 : Int32} {x3 : Int32} {x4 : Int32} {σ : jT}, jw (k16 x1 x2 x3 x4 σ) (fun q => Q (some (.int q.1)) (jh S q.2)) → jx_Ex (d + 4) jm_l177 jm_b177_16 [.ref 0, .int x1, .int x2, .int x3, .int x4] [] (jh S σ) Q) {x1 : Int32} {x2 : Int32} {x3 : Int32} {x4 : Int32} {σ : jT} (h : jw (f_X10_agree_b52 k16 x1 x2 x3 x4 σ) (fun q => Q (some (.int q.1)) (jh S q.2))) : jx_Ex (d + 4) jm_l177 jm_b177_52 [.ref 0, .int x1, .int x2, .int x3, .int x4] [] (jh S σ) Q := by
  unfold f_X10_agree_b52 at h
  refine xo_13 (ls' := [.ref 0, .int x1, .int x2, .int x3, .int (x4 + 1)]) rfl rfl ?_
  refine xo_54 (t := jm_b177_16) rfl ?_
  exact hk16 h
theorem t_X10_agree_b16 {S : jS} (hS : jCok S) {d : Nat} {Q : Option Value → jx_H → Prop} : ∀ (n : Nat) {x1 : Int32} {x2 : Int32} {x3 : Int32} {x4 : Int32} {σ : jT}, jw (f_X10_agree_b16 n x1 x2 x3 x4 σ) (fun q => Q (some (.int q.1)) (jh S q.2)) → jx_Ex (d + 4) jm_l177 jm_b177_16 [.ref 0, .int x1, .int x2, .int x3, .int x4] [] (jh S σ) Q := by
  intro n
  induction n with
  | zero => intro x1 x2 x3 x4 σ h; exact jw_none h
  | succ n ih =>
    intro x1 x2 x3 x4 σ h
    rw [f_X10_agree_b16] at h
    refine xo_1 rfl ?_
    refine xo_2 rfl ?_
    refine xc_33 (i := 1) (q := 3) hS ly0 rfl (xc_P hS (by decide)) ?_
    refine xo_49 (st' := [.int x4]) rfl rfl (xc_ly hS ly3) rfl (Nat.le_of_ble_eq_true rfl) ?_
    refine t_X3_places hS ?_
    refine jw_mono (jw_bind h) (fun q1 h => ?_)
    show jx_Ex _ _ _ _ [.int q1.1, .int x4] (jh S q1.2) _
    refine xo_64 (t := jm_b177_58) rfl (fun hc2 => ?_) (fun hc2 => ?_)
    · replace h := jw_pos hc2 h
      refine xo_2 rfl ?_
      refine xc_33 (i := 5) (q := 47) hS ly0 rfl (xc_P hS (by decide)) ?_
      refine xo_0 rfl ?_
      refine xo_50 (st' := [.ref 47]) rfl rfl rfl (Nat.le_of_ble_eq_true rfl) ?_
      refine t_J6_bitCount_0f7a4 (S := S) (σ := q1.2) ?_
      refine jw_mono (jw_bind h) (fun q3 h => ?_)
      show jx_Ex _ _ _ _ [.int q3.1, .ref 47] (jh S q1.2) _
      refine xo_49 (st' := []) rfl rfl (xc_ly hS ly47) rfl (Nat.le_of_ble_eq_true rfl) ?_
      refine t_X6_tell hS ?_
      refine jw_mono (jw_bind h) (fun q4 h => ?_)
      show jx_Ex _ _ _ _ [] (jh S q4.2) _
      refine xo_0 rfl ?_
      replace h := jw_some h
      exact xo_69 h
    · replace h := jw_neg hc2 h
      refine xo_2 rfl ?_
      refine xo_0 rfl ?_
      refine xo_1 rfl ?_
      refine xo_49 (st' := []) rfl rfl (xc_ly hS ly0) rfl (Nat.le_of_ble_eq_true rfl) ?_
      refine t_X10_viewAt hS ?_
      refine jw_mono (jw_bind h) (fun q5 h => ?_)
      show jx_Ex _ _ _ _ [.int q5.1] (jh S q5.2) _
      refine xo_2 rfl ?_
      refine xo_0 rfl ?_
      refine xo_1 rfl ?_
      refine xo_49 (st' := [.int q5.1]) rfl rfl (xc_ly hS ly0) rfl (Nat.le_of_ble_eq_true rfl) ?_
      refine t_X10_viewAt hS ?_
      refine jw_mono (jw_bind h) (fun q6 h => ?_)
      show jx_Ex _ _ _ _ [.int q6.1, .int q5.1] (jh S q6.2) _
      refine xo_62 (t := jm_b177_52) rfl (fun hc7 => ?_) (fun hc7 => ?_)
      · replace h := jw_pos hc7 h
        exact t_X10_agree_b52 hS ih h
      · replace h := jw_neg hc7 h
        refine xo_0 rfl ?_
        refine xo_8 ?_
        refine xo_1 rfl ?_
        refine xo_23 ?_
        refine xo_21 ?_
        refine xo_4 (ls' := [.ref 0, .int x1, .int x2, .int (x3 ||| (1 <<< (x4 &&& 31))), .int x4]) rfl ?_
        exact t_X10_agree_b52 hS ih h
theorem t_X10_agree {S : jS} (hS : jCok S) {d : Nat} {Q : Option Value → jx_H → Prop} {x1 : Int32} {x2 : Int32} {σ : jT} (h : jw (f_X10_agree x1 x2 σ) (fun q => Q (some (.int q.1)) (jh S q.2))) : jx_Sp (d + 4) 177 [.ref 0, .int x1, .int x2] (jh S σ) Q := by
  refine ⟨jm_i177, jm_at177, rfl, rfl, ?_⟩
  show jx_Ex _ jm_l177 jm_b177_0 [.ref 0, .int x1, .int x2, .retAddr 0, .retAddr 0] [] _ _
  unfold f_X10_agree at h
  refine xo_2 rfl ?_
  refine xo_0 rfl ?_
  refine xo_0 rfl ?_
  refine xo_49 (st' := []) rfl rfl (xc_ly hS ly0) rfl (Nat.le_of_ble_eq_true rfl) ?_
  refine t_X10_areTwo hS ?_
  refine jw_mono (jw_bind h) (fun q1 h => ?_)
  show jx_Ex _ _ _ _ [.int q1.1] (jh S q1.2) _
  refine xo_56 (t := jm_b177_11) rfl (fun hc2 => ?_) (fun hc2 => ?_)
  · replace h := jw_pos hc2 h
    refine xo_8 ?_
    refine xo_4 (ls' := [.ref 0, .int x1, .int x2, .int 0, .retAddr 0]) rfl ?_
    refine xo_8 ?_
    refine xo_5 (ls' := [.ref 0, .int x1, .int x2, .int 0, .int 0]) rfl ?_
    exact t_X10_agree_b16 hS 1000 h
  · replace h := jw_neg hc2 h
    refine xo_8 ?_
    replace h := jw_some h
    exact xo_69 h
/-- Ride.leftBeside, at ['x.trial', 'int'] -/
def f_X5_leftBeside (x1 : Int32) (σ : jT) : Option (Int32 × jT) :=
  if ¬ x1 = (σ.2 50 0) then
    some ((σ.2 51 0), σ)
  else
    some ((σ.2 51 1), σ)
theorem t_X5_leftBeside {S : jS} (hS : jCok S) {d : Nat} {Q : Option Value → jx_H → Prop} {x1 : Int32} {σ : jT} (h : jw (f_X5_leftBeside x1 σ) (fun q => Q (some (.int q.1)) (jh S q.2))) : jx_Sp (d) 57 [.ref 49, .int x1] (jh S σ) Q := by
  refine ⟨jm_i57, jm_at57, rfl, rfl, ?_⟩
  show jx_Ex _ jm_l57 jm_b57_0 [.ref 49, .int x1] [] _ _
  unfold f_X5_leftBeside at h
  refine xo_0 rfl ?_
  refine xo_2 rfl ?_
  refine xc_33 (i := 3139) (q := 50) hS ly49 rfl (xc_P hS (by decide)) ?_
  refine xo_8 ?_
  refine xc_38 (j := 0) (v := (σ.2 50 0)) hS ly50 ⟨Nat.le_of_ble_eq_true rfl, Nat.le_of_ble_eq_true rfl⟩ (by decide) (by decide) rfl ?_
  refine xo_62 (t := jm_b57_19) rfl (fun hc1 => ?_) (fun hc1 => ?_)
  · replace h := jw_pos hc1 h
    refine xo_2 rfl ?_
    refine xc_33 (i := 3140) (q := 51) hS ly49 rfl (xc_P hS (by decide)) ?_
    refine xo_8 ?_
    refine xc_38 (j := 0) (v := (σ.2 51 0)) hS ly51 ⟨Nat.le_of_ble_eq_true rfl, Nat.le_of_ble_eq_true rfl⟩ (by decide) (by decide) rfl ?_
    replace h := jw_some h
    exact xo_69 h
  · replace h := jw_neg hc1 h
    refine xo_2 rfl ?_
    refine xc_33 (i := 3140) (q := 51) hS ly49 rfl (xc_P hS (by decide)) ?_
    refine xo_8 ?_
    refine xc_38 (j := 1) (v := (σ.2 51 1)) hS ly51 ⟨Nat.le_of_ble_eq_true rfl, Nat.le_of_ble_eq_true rfl⟩ (by decide) (by decide) rfl ?_
    refine xo_54 (t := jm_b57_25) rfl ?_
    replace h := jw_some h
    exact xo_69 h
/-- OfDifferentMinds.convinces, at ['x', 'int', 'int', 'int'] -/
def f_X10_convinces_b60 (σ : jT) : Option (Int32 × jT) :=
  (f_X5_latest σ).bind fun q1 =>
  if ¬ q1.1 = (-1) then
    (f_X5_taken q1.2).bind fun q3 =>
    (f_X5_latest q3.2).bind fun q4 =>
    (f_X5_leftBeside q4.1 q4.2).bind fun q5 =>
    (f_X6_tell_ q3.1 q5.1 q5.2).bind fun q6 =>
    (f_X5_latest q6.2).bind fun q7 =>
    some (q7.1, q7.2)
  else
    some ((-2), q1.2)
def f_X10_convinces_b25 : Nat → Int32 → jT → Option (Int32 × jT)
  | 0, _, _ => none
  | n + 1, x4, σ =>
    if 200 ≤ x4 then
      f_X10_convinces_b60 σ
    else
      (f_X5_latest σ).bind fun q2 =>
      if ¬ q2.1 = (-1) then
        f_X10_convinces_b60 q2.2
      else
        (f_X5_step q2.2).bind fun q4 =>
        if q4.1 = 0 then
          f_X10_convinces_b60 q4.2
        else
          f_X10_convinces_b25 n (x4 + 1) q4.2
def f_X10_convinces (x1 : Int32) (x2 : Int32) (x3 : Int32) (σ : jT) : Option (Int32 × jT) :=
  (f_X10_canRide x1 x2 x3 σ).bind fun q1 =>
  if ¬ q1.1 = 0 then
    (f_X5_begin x1 x2 x3 q1.2).bind fun q3 =>
    f_X10_convinces_b25 1000 0 q3.2
  else
    some ((-1), q1.2)
theorem t_X10_convinces_b60 {S : jS} (hS : jCok S) {d : Nat} {Q : Option Value → jx_H → Prop} {w1 : Value} {w2 : Value} {w3 : Value} {w4 : Value} {σ : jT} (h : jw (f_X10_convinces_b60 σ) (fun q => Q (some (.int q.1)) (jh S q.2))) : jx_Ex (d + 4) jm_l178 jm_b178_60 [.ref 0, w1, w2, w3, w4] [] (jh S σ) Q := by
  unfold f_X10_convinces_b60 at h
  refine xo_2 rfl ?_
  refine xc_33 (i := 6) (q := 49) hS ly0 rfl (xc_P hS (by decide)) ?_
  refine xo_49 (st' := []) rfl rfl (xc_ly hS ly49) rfl (Nat.le_of_ble_eq_true rfl) ?_
  refine t_X5_latest hS ?_
  refine jw_mono (jw_bind h) (fun q1 h => ?_)
  show jx_Ex _ _ _ _ [.int q1.1] (jh S q1.2) _
  refine xo_8 ?_
  refine xo_62 (t := jm_b178_74) rfl (fun hc2 => ?_) (fun hc2 => ?_)
  · replace h := jw_pos hc2 h
    refine xo_2 rfl ?_
    refine xc_33 (i := 5) (q := 47) hS ly0 rfl (xc_P hS (by decide)) ?_
    refine xo_2 rfl ?_
    refine xc_33 (i := 6) (q := 49) hS ly0 rfl (xc_P hS (by decide)) ?_
    refine xo_49 (st' := [.ref 47]) rfl rfl (xc_ly hS ly49) rfl (Nat.le_of_ble_eq_true rfl) ?_
    refine t_X5_taken hS ?_
    refine jw_mono (jw_bind h) (fun q3 h => ?_)
    show jx_Ex _ _ _ _ [.int q3.1, .ref 47] (jh S q3.2) _
    refine xo_2 rfl ?_
    refine xc_33 (i := 6) (q := 49) hS ly0 rfl (xc_P hS (by decide)) ?_
    refine xo_2 rfl ?_
    refine xc_33 (i := 6) (q := 49) hS ly0 rfl (xc_P hS (by decide)) ?_
    refine xo_49 (st' := [.ref 49, .int q3.1, .ref 47]) rfl rfl (xc_ly hS ly49) rfl (Nat.le_of_ble_eq_true rfl) ?_
    refine t_X5_latest hS ?_
    refine jw_mono (jw_bind h) (fun q4 h => ?_)
    show jx_Ex _ _ _ _ [.int q4.1, .ref 49, .int q3.1, .ref 47] (jh S q4.2) _
    refine xo_49 (st' := [.int q3.1, .ref 47]) rfl rfl (xc_ly hS ly49) rfl (Nat.le_of_ble_eq_true rfl) ?_
    refine t_X5_leftBeside hS ?_
    refine jw_mono (jw_bind h) (fun q5 h => ?_)
    show jx_Ex _ _ _ _ [.int q5.1, .int q3.1, .ref 47] (jh S q5.2) _
    refine xo_49 (st' := []) rfl rfl (xc_ly hS ly47) rfl (Nat.le_of_ble_eq_true rfl) ?_
    refine t_X6_tell_ hS ?_
    refine jw_mono (jw_bind h) (fun q6 h => ?_)
    show jx_Ex _ _ _ _ [] (jh S q6.2) _
    refine xo_2 rfl ?_
    refine xc_33 (i := 6) (q := 49) hS ly0 rfl (xc_P hS (by decide)) ?_
    refine xo_49 (st' := []) rfl rfl (xc_ly hS ly49) rfl (Nat.le_of_ble_eq_true rfl) ?_
    refine t_X5_latest hS ?_
    refine jw_mono (jw_bind h) (fun q7 h => ?_)
    show jx_Ex _ _ _ _ [.int q7.1] (jh S q7.2) _
    replace h := jw_some h
    exact xo_69 h
  · replace h := jw_neg hc2 h
    refine xo_9 ?_
    replace h := jw_some h
    exact xo_69 h
theorem t_X10_convinces_b25 {S : jS} (hS : jCok S) {d : Nat} {Q : Option Value → jx_H → Prop} : ∀ (n : Nat) {x4 : Int32} {w1 : Value} {w2 : Value} {w3 : Value} {σ : jT}, jw (f_X10_convinces_b25 n x4 σ) (fun q => Q (some (.int q.1)) (jh S q.2)) → jx_Ex (d + 4) jm_l178 jm_b178_25 [.ref 0, w1, w2, w3, .int x4] [] (jh S σ) Q := by
  intro n
  induction n with
  | zero => intro x4 w1 w2 w3 σ h; exact jw_none h
  | succ n ih =>
    intro x4 w1 w2 w3 σ h
    rw [f_X10_convinces_b25] at h
    refine xo_1 rfl ?_
    refine xo_10 ?_
    refine xo_64 (t := jm_b178_60) rfl (fun hc1 => ?_) (fun hc1 => ?_)
    · replace h := jw_pos hc1 h
      exact t_X10_convinces_b60 hS h
    · replace h := jw_neg hc1 h
      refine xo_2 rfl ?_
      refine xc_33 (i := 6) (q := 49) hS ly0 rfl (xc_P hS (by decide)) ?_
      refine xo_49 (st' := []) rfl rfl (xc_ly hS ly49) rfl (Nat.le_of_ble_eq_true rfl) ?_
      refine t_X5_latest hS ?_
      refine jw_mono (jw_bind h) (fun q2 h => ?_)
      show jx_Ex _ _ _ _ [.int q2.1] (jh S q2.2) _
      refine xo_8 ?_
      refine xo_62 (t := jm_b178_60) rfl (fun hc3 => ?_) (fun hc3 => ?_)
      · replace h := jw_pos hc3 h
        exact t_X10_convinces_b60 hS h
      · replace h := jw_neg hc3 h
        refine xo_2 rfl ?_
        refine xc_33 (i := 6) (q := 49) hS ly0 rfl (xc_P hS (by decide)) ?_
        refine xo_49 (st' := []) rfl rfl (xc_ly hS ly49) rfl (Nat.le_of_ble_eq_true rfl) ?_
        refine t_X5_step hS ?_
        refine jw_mono (jw_bind h) (fun q4 h => ?_)
        show jx_Ex _ _ _ _ [.int q4.1] (jh S q4.2) _
        refine xo_55 (t := jm_b178_60) rfl (fun hc5 => ?_) (fun hc5 => ?_)
        · replace h := jw_pos hc5 h
          exact t_X10_convinces_b60 hS h
        · replace h := jw_neg hc5 h
          refine xo_13 (ls' := [.ref 0, w1, w2, w3, .int (x4 + 1)]) rfl rfl ?_
          refine xo_54 (t := jm_b178_25) rfl ?_
          exact ih h
theorem t_X10_convinces {S : jS} (hS : jCok S) {d : Nat} {Q : Option Value → jx_H → Prop} {x1 : Int32} {x2 : Int32} {x3 : Int32} {σ : jT} (h : jw (f_X10_convinces x1 x2 x3 σ) (fun q => Q (some (.int q.1)) (jh S q.2))) : jx_Sp (d + 4) 178 [.ref 0, .int x1, .int x2, .int x3] (jh S σ) Q := by
  refine ⟨jm_i178, jm_at178, rfl, rfl, ?_⟩
  show jx_Ex _ jm_l178 jm_b178_0 [.ref 0, .int x1, .int x2, .int x3, .retAddr 0] [] _ _
  unfold f_X10_convinces at h
  refine xo_2 rfl ?_
  refine xo_0 rfl ?_
  refine xo_0 rfl ?_
  refine xo_0 rfl ?_
  refine xo_49 (st' := []) rfl rfl (xc_ly hS ly0) rfl (Nat.le_of_ble_eq_true rfl) ?_
  refine t_X10_canRide hS ?_
  refine jw_mono (jw_bind h) (fun q1 h => ?_)
  show jx_Ex _ _ _ _ [.int q1.1] (jh S q1.2) _
  refine xo_56 (t := jm_b178_12) rfl (fun hc2 => ?_) (fun hc2 => ?_)
  · replace h := jw_pos hc2 h
    refine xo_2 rfl ?_
    refine xc_33 (i := 6) (q := 49) hS ly0 rfl (xc_P hS (by decide)) ?_
    refine xo_0 rfl ?_
    refine xo_0 rfl ?_
    refine xo_0 rfl ?_
    refine xo_49 (st' := []) rfl rfl (xc_ly hS ly49) rfl (Nat.le_of_ble_eq_true rfl) ?_
    refine t_X5_begin hS ?_
    refine jw_mono (jw_bind h) (fun q3 h => ?_)
    show jx_Ex _ _ _ _ [] (jh S q3.2) _
    refine xo_8 ?_
    refine xo_5 (ls' := [.ref 0, .int x1, .int x2, .int x3, .int 0]) rfl ?_
    exact t_X10_convinces_b25 hS 1000 h
  · replace h := jw_neg hc2 h
    refine xo_8 ?_
    replace h := jw_some h
    exact xo_69 h
/-- Ride.wayClaiming, at ['x.trial', 'int', 'int'] -/
def f_X5_wayClaiming_b23 (x1 : Int32) (x2 : Int32) (s0 : Int32) (σ : jT) : Option (Int32 × jT) :=
  (f_X3_viewOf s0 (σ.1 3144) σ).bind fun q1 =>
  if ¬ x1 = 0 then
    (f_X5_wayBy q1.1 x2 q1.2).bind fun q3 =>
    some (q3.1, q3.2)
  else
    (f_X5_wayBy x2 q1.1 q1.2).bind fun q4 =>
    some (q4.1, q4.2)
def f_X5_wayClaiming (x1 : Int32) (x2 : Int32) (σ : jT) : Option (Int32 × jT) :=
  if ¬ x1 = 0 then
    f_X5_wayClaiming_b23 x1 x2 (σ.2 54 0) σ
  else
    f_X5_wayClaiming_b23 x1 x2 (σ.2 54 1) σ
theorem t_X5_wayClaiming_b23 {S : jS} (hS : jCok S) {d : Nat} {Q : Option Value → jx_H → Prop} {x1 : Int32} {x2 : Int32} {s0 : Int32} {w3 : Value} {σ : jT} (h : jw (f_X5_wayClaiming_b23 x1 x2 s0 σ) (fun q => Q (some (.int q.1)) (jh S q.2))) : jx_Ex (d + 3) jm_l59 jm_b59_23 [.ref 49, .int x1, .int x2, w3] [.int s0, .ref 3] (jh S σ) Q := by
  unfold f_X5_wayClaiming_b23 at h
  refine xo_2 rfl ?_
  refine xc_32 (i := 3144) (v := (σ.1 3144)) hS ly49 rfl ⟨Nat.le_of_ble_eq_true rfl, Nat.le_of_ble_eq_true rfl⟩ rfl ?_
  refine xo_49 (st' := []) rfl rfl (xc_ly hS ly3) rfl (Nat.le_of_ble_eq_true rfl) ?_
  refine t_X3_viewOf hS ?_
  refine jw_mono (jw_bind h) (fun q1 h => ?_)
  show jx_Ex _ _ _ _ [.int q1.1] (jh S q1.2) _
  refine xo_4 (ls' := [.ref 49, .int x1, .int x2, .int q1.1]) rfl ?_
  refine xo_0 rfl ?_
  refine xo_56 (t := jm_b59_44) rfl (fun hc2 => ?_) (fun hc2 => ?_)
  · replace h := jw_pos hc2 h
    refine xo_2 rfl ?_
    refine xo_0 rfl ?_
    refine xo_0 rfl ?_
    refine xo_49 (st' := []) rfl rfl (xc_ly hS ly49) rfl (Nat.le_of_ble_eq_true rfl) ?_
    refine t_X5_wayBy hS ?_
    refine jw_mono (jw_bind h) (fun q3 h => ?_)
    show jx_Ex _ _ _ _ [.int q3.1] (jh S q3.2) _
    replace h := jw_some h
    exact xo_69 h
  · replace h := jw_neg hc2 h
    refine xo_2 rfl ?_
    refine xo_0 rfl ?_
    refine xo_0 rfl ?_
    refine xo_49 (st' := []) rfl rfl (xc_ly hS ly49) rfl (Nat.le_of_ble_eq_true rfl) ?_
    refine t_X5_wayBy hS ?_
    refine jw_mono (jw_bind h) (fun q4 h => ?_)
    show jx_Ex _ _ _ _ [.int q4.1] (jh S q4.2) _
    refine xo_54 (t := jm_b59_50) rfl ?_
    replace h := jw_some h
    exact xo_69 h
theorem t_X5_wayClaiming {S : jS} (hS : jCok S) {d : Nat} {Q : Option Value → jx_H → Prop} {x1 : Int32} {x2 : Int32} {σ : jT} (h : jw (f_X5_wayClaiming x1 x2 σ) (fun q => Q (some (.int q.1)) (jh S q.2))) : jx_Sp (d + 3) 59 [.ref 49, .int x1, .int x2] (jh S σ) Q := by
  refine ⟨jm_i59, jm_at59, rfl, rfl, ?_⟩
  show jx_Ex _ jm_l59 jm_b59_0 [.ref 49, .int x1, .int x2, .retAddr 0] [] _ _
  unfold f_X5_wayClaiming at h
  refine xo_2 rfl ?_
  refine xc_33 (i := 3136) (q := 3) hS ly49 rfl (xc_P hS (by decide)) ?_
  refine xo_0 rfl ?_
  refine xo_56 (t := jm_b59_17) rfl (fun hc1 => ?_) (fun hc1 => ?_)
  · replace h := jw_pos hc1 h
    refine xo_2 rfl ?_
    refine xc_33 (i := 3143) (q := 54) hS ly49 rfl (xc_P hS (by decide)) ?_
    refine xo_8 ?_
    refine xc_38 (j := 0) (v := (σ.2 54 0)) hS ly54 ⟨Nat.le_of_ble_eq_true rfl, Nat.le_of_ble_eq_true rfl⟩ (by decide) (by decide) rfl ?_
    exact t_X5_wayClaiming_b23 hS h
  · replace h := jw_neg hc1 h
    refine xo_2 rfl ?_
    refine xc_33 (i := 3143) (q := 54) hS ly49 rfl (xc_P hS (by decide)) ?_
    refine xo_8 ?_
    refine xc_38 (j := 1) (v := (σ.2 54 1)) hS ly54 ⟨Nat.le_of_ble_eq_true rfl, Nat.le_of_ble_eq_true rfl⟩ (by decide) (by decide) rfl ?_
    refine xo_54 (t := jm_b59_23) rfl ?_
    exact t_X5_wayClaiming_b23 hS h
/-- OfDifferentMinds.claim, at ['x', 'int', 'int'] -/
def f_X10_claim_b90 (k61 : Int32 → Int32 → Int32 → Int32 → Int32 → jT → Option (Int32 × jT)) (x1 : Int32) (x2 : Int32) (x3 : Int32) (x4 : Int32) (x5 : Int32) (σ : jT) : Option (Int32 × jT) :=
  k61 x1 x2 x3 x4 (x5 + 1) σ
def f_X10_claim_b61 : Nat → Int32 → Int32 → Int32 → Int32 → Int32 → jT → Option (Int32 × jT)
  | 0, _, _, _, _, _, _ => none
  | n + 1, x1, x2, x3, x4, x5, σ =>
    if x3 ≤ x5 then
      some (x4, σ)
    else
      (f_X5_wayClaiming x1 x5 σ).bind fun q2 =>
      if ¬ q2.1 = x2 then
        f_X10_claim_b90 (f_X10_claim_b61 n) x1 x2 x3 x4 x5 q2.2
      else
        f_X10_claim_b90 (f_X10_claim_b61 n) x1 x2 x3 (x4 ||| (1 <<< (x5 &&& 31))) x5 q2.2
def f_X10_claim (x1 : Int32) (x2 : Int32) (σ : jT) : Option (Int32 × jT) :=
  if x1 < 0 then
    some ((-1), σ)
  else
    if x1 ≤ 1 then
      (f_X8_horse σ).bind fun q3 =>
      (f_X3_waysAt q3.1 q3.2).bind fun q4 =>
      (f_X8_isMounted q4.2).bind fun q5 =>
      if q5.1 = 0 then
        some ((-2), q5.2)
      else
        if x2 < 0 then
          some ((-2), q5.2)
        else
          if x2 < q4.1 then
            (f_X5_resume q5.2).bind fun q9 =>
            f_X10_claim_b61 1000 x1 x2 q4.1 0 0 q9.2
          else
            some ((-2), q5.2)
    else
      some ((-1), σ)
theorem t_X10_claim_b90 {S : jS} (hS : jCok S) {d : Nat} {Q : Option Value → jx_H → Prop} {k61 : Int32 → Int32 → Int32 → Int32 → Int32 → jT → Option (Int32 × jT)} (hk61 : ∀ {x1 : Int32} {x2 : Int32} {x3 : Int32} {x4 : Int32} {x5 : Int32} {σ : jT}, jw (k61 x1 x2 x3 x4 x5 σ) (fun q => Q (some (.int q.1)) (jh S q.2)) → jx_Ex (d + 5) jm_l179 jm_b179_61 [.ref 0, .int x1, .int x2, .int x3, .int x4, .int x5] [] (jh S σ) Q) {x1 : Int32} {x2 : Int32} {x3 : Int32} {x4 : Int32} {x5 : Int32} {σ : jT} (h : jw (f_X10_claim_b90 k61 x1 x2 x3 x4 x5 σ) (fun q => Q (some (.int q.1)) (jh S q.2))) : jx_Ex (d + 5) jm_l179 jm_b179_90 [.ref 0, .int x1, .int x2, .int x3, .int x4, .int x5] [] (jh S σ) Q := by
  unfold f_X10_claim_b90 at h
  refine xo_13 (ls' := [.ref 0, .int x1, .int x2, .int x3, .int x4, .int (x5 + 1)]) rfl rfl ?_
  refine xo_54 (t := jm_b179_61) rfl ?_
  exact hk61 h
theorem t_X10_claim_b61 {S : jS} (hS : jCok S) {d : Nat} {Q : Option Value → jx_H → Prop} : ∀ (n : Nat) {x1 : Int32} {x2 : Int32} {x3 : Int32} {x4 : Int32} {x5 : Int32} {σ : jT}, jw (f_X10_claim_b61 n x1 x2 x3 x4 x5 σ) (fun q => Q (some (.int q.1)) (jh S q.2)) → jx_Ex (d + 5) jm_l179 jm_b179_61 [.ref 0, .int x1, .int x2, .int x3, .int x4, .int x5] [] (jh S σ) Q := by
  intro n
  induction n with
  | zero => intro x1 x2 x3 x4 x5 σ h; exact jw_none h
  | succ n ih =>
    intro x1 x2 x3 x4 x5 σ h
    rw [f_X10_claim_b61] at h
    refine xo_1 rfl ?_
    refine xo_0 rfl ?_
    refine xo_64 (t := jm_b179_96) rfl (fun hc1 => ?_) (fun hc1 => ?_)
    · replace h := jw_pos hc1 h
      refine xo_1 rfl ?_
      replace h := jw_some h
      exact xo_69 h
    · replace h := jw_neg hc1 h
      refine xo_2 rfl ?_
      refine xc_33 (i := 6) (q := 49) hS ly0 rfl (xc_P hS (by decide)) ?_
      refine xo_0 rfl ?_
      refine xo_1 rfl ?_
      refine xo_49 (st' := []) rfl rfl (xc_ly hS ly49) rfl (Nat.le_of_ble_eq_true rfl) ?_
      refine t_X5_wayClaiming hS ?_
      refine jw_mono (jw_bind h) (fun q2 h => ?_)
      show jx_Ex _ _ _ _ [.int q2.1] (jh S q2.2) _
      refine xo_0 rfl ?_
      refine xo_62 (t := jm_b179_90) rfl (fun hc3 => ?_) (fun hc3 => ?_)
      · replace h := jw_pos hc3 h
        exact t_X10_claim_b90 hS ih h
      · replace h := jw_neg hc3 h
        refine xo_1 rfl ?_
        refine xo_8 ?_
        refine xo_1 rfl ?_
        refine xo_23 ?_
        refine xo_21 ?_
        refine xo_5 (ls' := [.ref 0, .int x1, .int x2, .int x3, .int (x4 ||| (1 <<< (x5 &&& 31))), .int x5]) rfl ?_
        exact t_X10_claim_b90 hS ih h
theorem t_X10_claim {S : jS} (hS : jCok S) {d : Nat} {Q : Option Value → jx_H → Prop} {x1 : Int32} {x2 : Int32} {σ : jT} (h : jw (f_X10_claim x1 x2 σ) (fun q => Q (some (.int q.1)) (jh S q.2))) : jx_Sp (d + 5) 179 [.ref 0, .int x1, .int x2] (jh S σ) Q := by
  refine ⟨jm_i179, jm_at179, rfl, rfl, ?_⟩
  show jx_Ex _ jm_l179 jm_b179_0 [.ref 0, .int x1, .int x2, .retAddr 0, .retAddr 0, .retAddr 0] [] _ _
  unfold f_X10_claim at h
  refine xo_0 rfl ?_
  refine xo_57 (t := jm_b179_9) rfl (fun hc1 => ?_) (fun hc1 => ?_)
  · replace h := jw_pos hc1 h
    refine xo_8 ?_
    replace h := jw_some h
    exact xo_69 h
  · replace h := jw_neg hc1 h
    refine xo_0 rfl ?_
    refine xo_8 ?_
    refine xo_66 (t := jm_b179_11) rfl (fun hc2 => ?_) (fun hc2 => ?_)
    · replace h := jw_pos hc2 h
      refine xo_2 rfl ?_
      refine xc_33 (i := 1) (q := 3) hS ly0 rfl (xc_P hS (by decide)) ?_
      refine xo_2 rfl ?_
      refine xc_33 (i := 3) (q := 12) hS ly0 rfl (xc_P hS (by decide)) ?_
      refine xo_49 (st' := [.ref 3]) rfl rfl (xc_ly hS ly12) rfl (Nat.le_of_ble_eq_true rfl) ?_
      refine t_X8_horse hS ?_
      refine jw_mono (jw_bind h) (fun q3 h => ?_)
      show jx_Ex _ _ _ _ [.int q3.1, .ref 3] (jh S q3.2) _
      refine xo_49 (st' := []) rfl rfl (xc_ly hS ly3) rfl (Nat.le_of_ble_eq_true rfl) ?_
      refine t_X3_waysAt hS ?_
      refine jw_mono (jw_bind h) (fun q4 h => ?_)
      show jx_Ex _ _ _ _ [.int q4.1] (jh S q4.2) _
      refine xo_4 (ls' := [.ref 0, .int x1, .int x2, .int q4.1, .retAddr 0, .retAddr 0]) rfl ?_
      refine xo_2 rfl ?_
      refine xc_33 (i := 3) (q := 12) hS ly0 rfl (xc_P hS (by decide)) ?_
      refine xo_49 (st' := []) rfl rfl (xc_ly hS ly12) rfl (Nat.le_of_ble_eq_true rfl) ?_
      refine t_X8_isMounted hS ?_
      refine jw_mono (jw_bind h) (fun q5 h => ?_)
      show jx_Ex _ _ _ _ [.int q5.1] (jh S q5.2) _
      refine xo_55 (t := jm_b179_45) rfl (fun hc6 => ?_) (fun hc6 => ?_)
      · replace h := jw_pos hc6 h
        refine xo_9 ?_
        replace h := jw_some h
        exact xo_69 h
      · replace h := jw_neg hc6 h
        refine xo_0 rfl ?_
        refine xo_57 (t := jm_b179_45) rfl (fun hc7 => ?_) (fun hc7 => ?_)
        · replace h := jw_pos hc7 h
          refine xo_9 ?_
          replace h := jw_some h
          exact xo_69 h
        · replace h := jw_neg hc7 h
          refine xo_0 rfl ?_
          refine xo_0 rfl ?_
          refine xo_63 (t := jm_b179_48) rfl (fun hc8 => ?_) (fun hc8 => ?_)
          · replace h := jw_pos hc8 h
            refine xo_8 ?_
            refine xo_5 (ls' := [.ref 0, .int x1, .int x2, .int q4.1, .int 0, .retAddr 0]) rfl ?_
            refine xo_2 rfl ?_
            refine xc_33 (i := 6) (q := 49) hS ly0 rfl (xc_P hS (by decide)) ?_
            refine xo_49 (st' := []) rfl rfl (xc_ly hS ly49) rfl (Nat.le_of_ble_eq_true rfl) ?_
            refine t_X5_resume hS ?_
            refine jw_mono (jw_bind h) (fun q9 h => ?_)
            show jx_Ex _ _ _ _ [] (jh S q9.2) _
            refine xo_8 ?_
            refine xo_5 (ls' := [.ref 0, .int x1, .int x2, .int q4.1, .int 0, .int 0]) rfl ?_
            exact t_X10_claim_b61 hS 1000 h
          · replace h := jw_neg hc8 h
            refine xo_9 ?_
            replace h := jw_some h
            exact xo_69 h
    · replace h := jw_neg hc2 h
      refine xo_8 ?_
      replace h := jw_some h
      exact xo_69 h
/-- Ride.stepClaiming, at ['x.trial', 'int', 'int'] -/
def f_X5_stepClaiming (x1 : Int32) (x2 : Int32) (σ : jT) : Option (Int32 × jT) :=
  (f_X5_wayClaiming x1 x2 σ).bind fun q1 =>
  (f_X5_goBy q1.1 q1.2).bind fun q2 =>
  if q2.1 = 0 ∨ q2.1 = 1 then
  some (q2.1, q2.2)
  else none
theorem t_X5_stepClaiming {S : jS} (hS : jCok S) {d : Nat} {Q : Option Value → jx_H → Prop} {x1 : Int32} {x2 : Int32} {σ : jT} (h : jw (f_X5_stepClaiming x1 x2 σ) (fun q => Q (some (.int q.1)) (jh S q.2))) : jx_Sp (d + 4) 60 [.ref 49, .int x1, .int x2] (jh S σ) Q := by
  refine ⟨jm_i60, jm_at60, rfl, rfl, ?_⟩
  show jx_Ex _ jm_l60 jm_b60_0 [.ref 49, .int x1, .int x2] [] _ _
  unfold f_X5_stepClaiming at h
  refine xo_2 rfl ?_
  refine xo_2 rfl ?_
  refine xo_0 rfl ?_
  refine xo_0 rfl ?_
  refine xo_49 (st' := [.ref 49]) rfl rfl (xc_ly hS ly49) rfl (Nat.le_of_ble_eq_true rfl) ?_
  refine t_X5_wayClaiming hS ?_
  refine jw_mono (jw_bind h) (fun q1 h => ?_)
  show jx_Ex _ _ _ _ [.int q1.1, .ref 49] (jh S q1.2) _
  refine xo_49 (st' := []) rfl rfl (xc_ly hS ly49) rfl (Nat.le_of_ble_eq_true rfl) ?_
  refine t_X5_goBy hS ?_
  refine jw_mono (jw_bind h) (fun q2 h => ?_)
  show jx_Ex _ _ _ _ [.int q2.1] (jh S q2.2) _
  obtain ⟨hz3, h⟩ := jw_chk h
  replace h := jw_some h
  exact xo_70 hz3 h
/-- OfDifferentMinds.lie, at ['x', 'int', 'int'] -/
def f_X10_lie_b131 (k46 : Int32 → Int32 → Int32 → Int32 → Int32 → jT → Option (Int32 × jT)) (x1 : Int32) (x2 : Int32) (x3 : Int32) (x4 : Int32) (x5 : Int32) (σ : jT) : Option (Int32 × jT) :=
  k46 x1 x2 x3 x4 (x5 + 1) σ
def f_X10_lie_b101 (k46 : Int32 → Int32 → Int32 → Int32 → Int32 → jT → Option (Int32 × jT)) (x1 : Int32) (x2 : Int32) (x3 : Int32) (x4 : Int32) (x5 : Int32) (s0 : Int32) (σ : jT) : Option (Int32 × jT) :=
  if s0 = 0 then
    f_X10_lie_b131 k46 x1 x2 x3 x4 x5 σ
  else
    (f_X5_taken σ).bind fun q2 =>
    if x3 ≤ q2.1 then
      f_X10_lie_b131 k46 x1 x2 x3 x4 x5 q2.2
    else
      (f_X5_taken q2.2).bind fun q4 =>
      f_X10_lie_b131 k46 x1 x2 q4.1 x5 x5 q4.2
def f_X10_lie_b100 (k46 : Int32 → Int32 → Int32 → Int32 → Int32 → jT → Option (Int32 × jT)) (x1 : Int32) (x2 : Int32) (x3 : Int32) (x4 : Int32) (x5 : Int32) (σ : jT) : Option (Int32 × jT) :=
  f_X10_lie_b101 k46 x1 x2 x3 x4 x5 0 σ
def f_X10_lie_b46 : Nat → Int32 → Int32 → Int32 → Int32 → Int32 → jT → Option (Int32 × jT)
  | 0, _, _, _, _, _, _ => none
  | n + 1, x1, x2, x3, x4, x5, σ =>
    (f_X8_horse σ).bind fun q1 =>
    (f_X3_waysAt q1.1 q1.2).bind fun q2 =>
    if q2.1 ≤ x5 then
      if x4 = (-2) then
        some (x4, q2.2)
      else
        (f_X6_tell x3 q2.2).bind fun q5 =>
        some (x4, q5.2)
    else
      (f_X5_resume q2.2).bind fun q6 =>
      (f_X5_stepClaiming x1 x5 q6.2).bind fun q7 =>
      if q7.1 = 0 then
        f_X10_lie_b100 (f_X10_lie_b46 n) x1 x2 x3 x4 x5 q7.2
      else
        (f_X5_comesTo x2 q7.2).bind fun q9 =>
        if q9.1 = 0 then
          f_X10_lie_b100 (f_X10_lie_b46 n) x1 x2 x3 x4 x5 q9.2
        else
          f_X10_lie_b101 (f_X10_lie_b46 n) x1 x2 x3 x4 x5 1 q9.2
def f_X10_lie (x1 : Int32) (x2 : Int32) (σ : jT) : Option (Int32 × jT) :=
  if x1 < 0 then
    some ((-1), σ)
  else
    if 1 < x1 then
      some ((-1), σ)
    else
      (f_X3_hasPlace x2 σ).bind fun q3 =>
      if ¬ q3.1 = 0 then
        (f_X8_isMounted q3.2).bind fun q5 =>
        if ¬ q5.1 = 0 then
          f_X10_lie_b46 1000 x1 x2 201 (-2) 0 q5.2
        else
          some ((-2), q5.2)
      else
        some ((-1), q3.2)
theorem t_X10_lie_b131 {S : jS} (hS : jCok S) {d : Nat} {Q : Option Value → jx_H → Prop} {k46 : Int32 → Int32 → Int32 → Int32 → Int32 → jT → Option (Int32 × jT)} (hk46 : ∀ {x1 : Int32} {x2 : Int32} {x3 : Int32} {x4 : Int32} {x5 : Int32} {w6 : Value} {σ : jT}, jw (k46 x1 x2 x3 x4 x5 σ) (fun q => Q (some (.int q.1)) (jh S q.2)) → jx_Ex (d + 5) jm_l180 jm_b180_46 [.ref 0, .int x1, .int x2, .int x3, .int x4, .int x5, w6] [] (jh S σ) Q) {x1 : Int32} {x2 : Int32} {x3 : Int32} {x4 : Int32} {x5 : Int32} {w6 : Value} {σ : jT} (h : jw (f_X10_lie_b131 k46 x1 x2 x3 x4 x5 σ) (fun q => Q (some (.int q.1)) (jh S q.2))) : jx_Ex (d + 5) jm_l180 jm_b180_131 [.ref 0, .int x1, .int x2, .int x3, .int x4, .int x5, w6] [] (jh S σ) Q := by
  unfold f_X10_lie_b131 at h
  refine xo_13 (ls' := [.ref 0, .int x1, .int x2, .int x3, .int x4, .int (x5 + 1), w6]) rfl rfl ?_
  refine xo_54 (t := jm_b180_46) rfl ?_
  exact hk46 h
theorem t_X10_lie_b101 {S : jS} (hS : jCok S) {d : Nat} {Q : Option Value → jx_H → Prop} {k46 : Int32 → Int32 → Int32 → Int32 → Int32 → jT → Option (Int32 × jT)} (hk46 : ∀ {x1 : Int32} {x2 : Int32} {x3 : Int32} {x4 : Int32} {x5 : Int32} {w6 : Value} {σ : jT}, jw (k46 x1 x2 x3 x4 x5 σ) (fun q => Q (some (.int q.1)) (jh S q.2)) → jx_Ex (d + 5) jm_l180 jm_b180_46 [.ref 0, .int x1, .int x2, .int x3, .int x4, .int x5, w6] [] (jh S σ) Q) {x1 : Int32} {x2 : Int32} {x3 : Int32} {x4 : Int32} {x5 : Int32} {s0 : Int32} {w6 : Value} {σ : jT} (h : jw (f_X10_lie_b101 k46 x1 x2 x3 x4 x5 s0 σ) (fun q => Q (some (.int q.1)) (jh S q.2))) : jx_Ex (d + 5) jm_l180 jm_b180_101 [.ref 0, .int x1, .int x2, .int x3, .int x4, .int x5, w6] [.int s0] (jh S σ) Q := by
  unfold f_X10_lie_b101 at h
  refine xo_5 (ls' := [.ref 0, .int x1, .int x2, .int x3, .int x4, .int x5, .int s0]) rfl ?_
  refine xo_1 rfl ?_
  refine xo_55 (t := jm_b180_131) rfl (fun hc1 => ?_) (fun hc1 => ?_)
  · replace h := jw_pos hc1 h
    exact t_X10_lie_b131 hS hk46 h
  · replace h := jw_neg hc1 h
    refine xo_2 rfl ?_
    refine xc_33 (i := 6) (q := 49) hS ly0 rfl (xc_P hS (by decide)) ?_
    refine xo_49 (st' := []) rfl rfl (xc_ly hS ly49) rfl (Nat.le_of_ble_eq_true rfl) ?_
    refine t_X5_taken hS ?_
    refine jw_mono (jw_bind h) (fun q2 h => ?_)
    show jx_Ex _ _ _ _ [.int q2.1] (jh S q2.2) _
    refine xo_0 rfl ?_
    refine xo_64 (t := jm_b180_131) rfl (fun hc3 => ?_) (fun hc3 => ?_)
    · replace h := jw_pos hc3 h
      exact t_X10_lie_b131 hS hk46 h
    · replace h := jw_neg hc3 h
      refine xo_2 rfl ?_
      refine xc_33 (i := 6) (q := 49) hS ly0 rfl (xc_P hS (by decide)) ?_
      refine xo_49 (st' := []) rfl rfl (xc_ly hS ly49) rfl (Nat.le_of_ble_eq_true rfl) ?_
      refine t_X5_taken hS ?_
      refine jw_mono (jw_bind h) (fun q4 h => ?_)
      show jx_Ex _ _ _ _ [.int q4.1] (jh S q4.2) _
      refine xo_4 (ls' := [.ref 0, .int x1, .int x2, .int q4.1, .int x4, .int x5, .int s0]) rfl ?_
      refine xo_1 rfl ?_
      refine xo_5 (ls' := [.ref 0, .int x1, .int x2, .int q4.1, .int x5, .int x5, .int s0]) rfl ?_
      exact t_X10_lie_b131 hS hk46 h
theorem t_X10_lie_b100 {S : jS} (hS : jCok S) {d : Nat} {Q : Option Value → jx_H → Prop} {k46 : Int32 → Int32 → Int32 → Int32 → Int32 → jT → Option (Int32 × jT)} (hk46 : ∀ {x1 : Int32} {x2 : Int32} {x3 : Int32} {x4 : Int32} {x5 : Int32} {w6 : Value} {σ : jT}, jw (k46 x1 x2 x3 x4 x5 σ) (fun q => Q (some (.int q.1)) (jh S q.2)) → jx_Ex (d + 5) jm_l180 jm_b180_46 [.ref 0, .int x1, .int x2, .int x3, .int x4, .int x5, w6] [] (jh S σ) Q) {x1 : Int32} {x2 : Int32} {x3 : Int32} {x4 : Int32} {x5 : Int32} {w6 : Value} {σ : jT} (h : jw (f_X10_lie_b100 k46 x1 x2 x3 x4 x5 σ) (fun q => Q (some (.int q.1)) (jh S q.2))) : jx_Ex (d + 5) jm_l180 jm_b180_100 [.ref 0, .int x1, .int x2, .int x3, .int x4, .int x5, w6] [] (jh S σ) Q := by
  unfold f_X10_lie_b100 at h
  refine xo_8 ?_
  exact t_X10_lie_b101 hS hk46 h
theorem t_X10_lie_b46 {S : jS} (hS : jCok S) {d : Nat} {Q : Option Value → jx_H → Prop} : ∀ (n : Nat) {x1 : Int32} {x2 : Int32} {x3 : Int32} {x4 : Int32} {x5 : Int32} {w6 : Value} {σ : jT}, jw (f_X10_lie_b46 n x1 x2 x3 x4 x5 σ) (fun q => Q (some (.int q.1)) (jh S q.2)) → jx_Ex (d + 5) jm_l180 jm_b180_46 [.ref 0, .int x1, .int x2, .int x3, .int x4, .int x5, w6] [] (jh S σ) Q := by
  intro n
  induction n with
  | zero => intro x1 x2 x3 x4 x5 w6 σ h; exact jw_none h
  | succ n ih =>
    intro x1 x2 x3 x4 x5 w6 σ h
    rw [f_X10_lie_b46] at h
    refine xo_1 rfl ?_
    refine xo_2 rfl ?_
    refine xc_33 (i := 1) (q := 3) hS ly0 rfl (xc_P hS (by decide)) ?_
    refine xo_2 rfl ?_
    refine xc_33 (i := 3) (q := 12) hS ly0 rfl (xc_P hS (by decide)) ?_
    refine xo_49 (st' := [.ref 3, .int x5]) rfl rfl (xc_ly hS ly12) rfl (Nat.le_of_ble_eq_true rfl) ?_
    refine t_X8_horse hS ?_
    refine jw_mono (jw_bind h) (fun q1 h => ?_)
    show jx_Ex _ _ _ _ [.int q1.1, .ref 3, .int x5] (jh S q1.2) _
    refine xo_49 (st' := [.int x5]) rfl rfl (xc_ly hS ly3) rfl (Nat.le_of_ble_eq_true rfl) ?_
    refine t_X3_waysAt hS ?_
    refine jw_mono (jw_bind h) (fun q2 h => ?_)
    show jx_Ex _ _ _ _ [.int q2.1, .int x5] (jh S q2.2) _
    refine xo_64 (t := jm_b180_137) rfl (fun hc3 => ?_) (fun hc3 => ?_)
    · replace h := jw_pos hc3 h
      refine xo_1 rfl ?_
      refine xo_9 ?_
      refine xo_61 (t := jm_b180_152) rfl (fun hc4 => ?_) (fun hc4 => ?_)
      · replace h := jw_pos hc4 h
        refine xo_1 rfl ?_
        replace h := jw_some h
        exact xo_69 h
      · replace h := jw_neg hc4 h
        refine xo_2 rfl ?_
        refine xc_33 (i := 5) (q := 47) hS ly0 rfl (xc_P hS (by decide)) ?_
        refine xo_0 rfl ?_
        refine xo_49 (st' := []) rfl rfl (xc_ly hS ly47) rfl (Nat.le_of_ble_eq_true rfl) ?_
        refine t_X6_tell hS ?_
        refine jw_mono (jw_bind h) (fun q5 h => ?_)
        show jx_Ex _ _ _ _ [] (jh S q5.2) _
        refine xo_1 rfl ?_
        replace h := jw_some h
        exact xo_69 h
    · replace h := jw_neg hc3 h
      refine xo_2 rfl ?_
      refine xc_33 (i := 6) (q := 49) hS ly0 rfl (xc_P hS (by decide)) ?_
      refine xo_49 (st' := []) rfl rfl (xc_ly hS ly49) rfl (Nat.le_of_ble_eq_true rfl) ?_
      refine t_X5_resume hS ?_
      refine jw_mono (jw_bind h) (fun q6 h => ?_)
      show jx_Ex _ _ _ _ [] (jh S q6.2) _
      refine xo_2 rfl ?_
      refine xc_33 (i := 6) (q := 49) hS ly0 rfl (xc_P hS (by decide)) ?_
      refine xo_0 rfl ?_
      refine xo_1 rfl ?_
      refine xo_49 (st' := []) rfl rfl (xc_ly hS ly49) rfl (Nat.le_of_ble_eq_true rfl) ?_
      refine t_X5_stepClaiming hS ?_
      refine jw_mono (jw_bind h) (fun q7 h => ?_)
      show jx_Ex _ _ _ _ [.int q7.1] (jh S q7.2) _
      refine xo_55 (t := jm_b180_100) rfl (fun hc8 => ?_) (fun hc8 => ?_)
      · replace h := jw_pos hc8 h
        exact t_X10_lie_b100 hS ih h
      · replace h := jw_neg hc8 h
        refine xo_2 rfl ?_
        refine xc_33 (i := 6) (q := 49) hS ly0 rfl (xc_P hS (by decide)) ?_
        refine xo_0 rfl ?_
        refine xo_49 (st' := []) rfl rfl (xc_ly hS ly49) rfl (Nat.le_of_ble_eq_true rfl) ?_
        refine t_X5_comesTo hS ?_
        refine jw_mono (jw_bind h) (fun q9 h => ?_)
        show jx_Ex _ _ _ _ [.int q9.1] (jh S q9.2) _
        refine xo_55 (t := jm_b180_100) rfl (fun hc10 => ?_) (fun hc10 => ?_)
        · replace h := jw_pos hc10 h
          exact t_X10_lie_b100 hS ih h
        · replace h := jw_neg hc10 h
          refine xo_8 ?_
          refine xo_54 (t := jm_b180_101) rfl ?_
          exact t_X10_lie_b101 hS ih h
theorem t_X10_lie {S : jS} (hS : jCok S) {d : Nat} {Q : Option Value → jx_H → Prop} {x1 : Int32} {x2 : Int32} {σ : jT} (h : jw (f_X10_lie x1 x2 σ) (fun q => Q (some (.int q.1)) (jh S q.2))) : jx_Sp (d + 5) 180 [.ref 0, .int x1, .int x2] (jh S σ) Q := by
  refine ⟨jm_i180, jm_at180, rfl, rfl, ?_⟩
  show jx_Ex _ jm_l180 jm_b180_0 [.ref 0, .int x1, .int x2, .retAddr 0, .retAddr 0, .retAddr 0, .retAddr 0] [] _ _
  unfold f_X10_lie at h
  refine xo_0 rfl ?_
  refine xo_57 (t := jm_b180_20) rfl (fun hc1 => ?_) (fun hc1 => ?_)
  · replace h := jw_pos hc1 h
    refine xo_8 ?_
    replace h := jw_some h
    exact xo_69 h
  · replace h := jw_neg hc1 h
    refine xo_0 rfl ?_
    refine xo_8 ?_
    refine xo_65 (t := jm_b180_20) rfl (fun hc2 => ?_) (fun hc2 => ?_)
    · replace h := jw_pos hc2 h
      refine xo_8 ?_
      replace h := jw_some h
      exact xo_69 h
    · replace h := jw_neg hc2 h
      refine xo_2 rfl ?_
      refine xc_33 (i := 1) (q := 3) hS ly0 rfl (xc_P hS (by decide)) ?_
      refine xo_0 rfl ?_
      refine xo_49 (st' := []) rfl rfl (xc_ly hS ly3) rfl (Nat.le_of_ble_eq_true rfl) ?_
      refine t_X3_hasPlace hS ?_
      refine jw_mono (jw_bind h) (fun q3 h => ?_)
      show jx_Ex _ _ _ _ [.int q3.1] (jh S q3.2) _
      refine xo_56 (t := jm_b180_22) rfl (fun hc4 => ?_) (fun hc4 => ?_)
      · replace h := jw_pos hc4 h
        refine xo_2 rfl ?_
        refine xc_33 (i := 3) (q := 12) hS ly0 rfl (xc_P hS (by decide)) ?_
        refine xo_49 (st' := []) rfl rfl (xc_ly hS ly12) rfl (Nat.le_of_ble_eq_true rfl) ?_
        refine t_X8_isMounted hS ?_
        refine jw_mono (jw_bind h) (fun q5 h => ?_)
        show jx_Ex _ _ _ _ [.int q5.1] (jh S q5.2) _
        refine xo_56 (t := jm_b180_35) rfl (fun hc6 => ?_) (fun hc6 => ?_)
        · replace h := jw_pos hc6 h
          refine xo_10 ?_
          refine xo_4 (ls' := [.ref 0, .int x1, .int x2, .int 201, .retAddr 0, .retAddr 0, .retAddr 0]) rfl ?_
          refine xo_9 ?_
          refine xo_5 (ls' := [.ref 0, .int x1, .int x2, .int 201, .int (-2), .retAddr 0, .retAddr 0]) rfl ?_
          refine xo_8 ?_
          refine xo_5 (ls' := [.ref 0, .int x1, .int x2, .int 201, .int (-2), .int 0, .retAddr 0]) rfl ?_
          exact t_X10_lie_b46 hS 1000 h
        · replace h := jw_neg hc6 h
          refine xo_9 ?_
          replace h := jw_some h
          exact xo_69 h
      · replace h := jw_neg hc4 h
        refine xo_8 ?_
        replace h := jw_some h
        exact xo_69 h
/-- Grammar.inPrints, at ['x.text', 'int'] -/
def f_X1_inPrints_1_b35 (σ : jT) : Option (Int32 × jT) :=
  (f_X9_position σ).bind fun q1 =>
  if ¬ q1.1 = 0 then
    (f_X9_goesOn q1.2).bind fun q3 =>
    some (q3.1, q3.2)
  else
    some (0, q1.2)
def f_X1_inPrints_1_b8 : Nat → Int32 → Int32 → jT → Option (Int32 × jT)
  | 0, _, _, _ => none
  | n + 1, x1, x2, σ =>
    if 20 ≤ x2 then
      f_X1_inPrints_1_b35 σ
    else
      (f_X9_takeOf 97 ((97 + x1) - 1) σ).bind fun q2 =>
      if q2.1 = 0 then
        f_X1_inPrints_1_b35 q2.2
      else
        f_X1_inPrints_1_b8 n x1 (x2 + 1) q2.2
def f_X1_inPrints_1 (x1 : Int32) (σ : jT) : Option (Int32 × jT) :=
  (f_X9_open 20 σ).bind fun q1 =>
  f_X1_inPrints_1_b8 1000 x1 0 q1.2
theorem t_X1_inPrints_1_b35 {S : jS} (hS : jCok S) {d : Nat} {Q : Option Value → jx_H → Prop} {w1 : Value} {w2 : Value} {σ : jT} (h : jw (f_X1_inPrints_1_b35 σ) (fun q => Q (some (.int q.1)) (jh S q.2))) : jx_Ex (d + 3) jm_l17 jm_b17_35 [.ref 1, w1, w2] [] (jh S σ) Q := by
  unfold f_X1_inPrints_1_b35 at h
  refine xo_2 rfl ?_
  refine xo_49 (st' := []) rfl rfl (xc_ly hS ly1) rfl (Nat.le_of_ble_eq_true rfl) ?_
  refine t_X9_position hS ?_
  refine jw_mono (jw_bind h) (fun q1 h => ?_)
  show jx_Ex _ _ _ _ [.int q1.1] (jh S q1.2) _
  refine xo_56 (t := jm_b17_46) rfl (fun hc2 => ?_) (fun hc2 => ?_)
  · replace h := jw_pos hc2 h
    refine xo_2 rfl ?_
    refine xo_49 (st' := []) rfl rfl (xc_ly hS ly1) rfl (Nat.le_of_ble_eq_true rfl) ?_
    refine t_X9_goesOn hS ?_
    refine jw_mono (jw_bind h) (fun q3 h => ?_)
    show jx_Ex _ _ _ _ [.int q3.1] (jh S q3.2) _
    replace h := jw_some h
    exact xo_69 h
  · replace h := jw_neg hc2 h
    refine xo_8 ?_
    refine xo_54 (t := jm_b17_50) rfl ?_
    replace h := jw_some h
    exact xo_69 h
theorem t_X1_inPrints_1_b8 {S : jS} (hS : jCok S) {d : Nat} {Q : Option Value → jx_H → Prop} : ∀ (n : Nat) {x1 : Int32} {x2 : Int32} {σ : jT}, jw (f_X1_inPrints_1_b8 n x1 x2 σ) (fun q => Q (some (.int q.1)) (jh S q.2)) → jx_Ex (d + 3) jm_l17 jm_b17_8 [.ref 1, .int x1, .int x2] [] (jh S σ) Q := by
  intro n
  induction n with
  | zero => intro x1 x2 σ h; exact jw_none h
  | succ n ih =>
    intro x1 x2 σ h
    rw [f_X1_inPrints_1_b8] at h
    refine xo_0 rfl ?_
    refine xo_9 ?_
    refine xo_64 (t := jm_b17_35) rfl (fun hc1 => ?_) (fun hc1 => ?_)
    · replace h := jw_pos hc1 h
      exact t_X1_inPrints_1_b35 hS h
    · replace h := jw_neg hc1 h
      refine xo_2 rfl ?_
      refine xo_9 ?_
      refine xo_9 ?_
      refine xo_0 rfl ?_
      refine xo_14 ?_
      refine xo_8 ?_
      refine xo_15 ?_
      refine xo_49 (st' := []) rfl rfl (xc_ly hS ly1) rfl (Nat.le_of_ble_eq_true rfl) ?_
      refine t_X9_takeOf hS ?_
      refine jw_mono (jw_bind h) (fun q2 h => ?_)
      show jx_Ex _ _ _ _ [.int q2.1] (jh S q2.2) _
      refine xo_55 (t := jm_b17_35) rfl (fun hc3 => ?_) (fun hc3 => ?_)
      · replace h := jw_pos hc3 h
        exact t_X1_inPrints_1_b35 hS h
      · replace h := jw_neg hc3 h
        refine xo_13 (ls' := [.ref 1, .int x1, .int (x2 + 1)]) rfl rfl ?_
        refine xo_54 (t := jm_b17_8) rfl ?_
        exact ih h
theorem t_X1_inPrints_1 {S : jS} (hS : jCok S) {d : Nat} {Q : Option Value → jx_H → Prop} {x1 : Int32} {σ : jT} (h : jw (f_X1_inPrints_1 x1 σ) (fun q => Q (some (.int q.1)) (jh S q.2))) : jx_Sp (d + 3) 17 [.ref 1, .int x1] (jh S σ) Q := by
  refine ⟨jm_i17, jm_at17, rfl, rfl, ?_⟩
  show jx_Ex _ jm_l17 jm_b17_0 [.ref 1, .int x1, .retAddr 0] [] _ _
  unfold f_X1_inPrints_1 at h
  refine xo_2 rfl ?_
  refine xo_9 ?_
  refine xo_49 (st' := []) rfl rfl (xc_ly hS ly1) rfl (Nat.le_of_ble_eq_true rfl) ?_
  refine t_X9_open hS ?_
  refine jw_mono (jw_bind h) (fun q1 h => ?_)
  show jx_Ex _ _ _ _ [] (jh S q1.2) _
  refine xo_8 ?_
  refine xo_4 (ls' := [.ref 1, .int x1, .int 0]) rfl ?_
  exact t_X1_inPrints_1_b8 hS 1000 h
