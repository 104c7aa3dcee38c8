/-! ===== methods as functions ===== -/
/-- History.forgetAll, at ['x.history'] -/
def f_X2_forgetAll (σ : jT) : Option (Int32 × jT) :=
  some (0, (gs (gs σ 899 0) 900 0))
theorem t_X2_forgetAll {S : jS} (hS : jCok S) {d : Nat} {Q : Option Value → jx_H → Prop} {σ : jT} (h : jw (f_X2_forgetAll σ) (fun q => Q none (jh S q.2))) : jx_Sp (d) 20 [.ref 14] (jh S σ) Q := by
  refine ⟨jm_i20, jm_at20, rfl, rfl, ?_⟩
  show jx_Ex _ jm_l20 jm_b20_0 [.ref 14] [] _ _
  unfold f_X2_forgetAll at h
  refine xo_2 rfl ?_
  refine xo_8 ?_
  refine xc_34 (i := 899) hS ly14 rfl ⟨Nat.le_of_ble_eq_true rfl, Nat.le_of_ble_eq_true rfl⟩ ?_
  refine xo_2 rfl ?_
  refine xo_8 ?_
  refine xc_34 (i := 900) hS ly14 rfl ⟨Nat.le_of_ble_eq_true rfl, Nat.le_of_ble_eq_true rfl⟩ ?_
  replace h := jw_some h
  exact xo_71 h
/-- OfDifferentMinds.roads, at ['x'] -/
def f_X10_roads_b43 (x1 : Int32) (σ : jT) : Option (Int32 × jT) :=
  (f_X9_clear σ).bind fun q1 =>
  if ¬ x1 = (-1) then
    some (((-1) - x1), q1.2)
  else
    (f_X3_places q1.2).bind fun q3 =>
    some (q3.1, q3.2)
def f_X10_roads (σ : jT) : Option (Int32 × jT) :=
  (f_X1_inRoads_1 σ).bind fun q1 =>
  if ¬ q1.1 = (-1) then
    f_X10_roads_b43 q1.1 q1.2
  else
    (f_X3_lay_1 q1.2).bind fun q3 =>
    (f_X8_clear q3.2).bind fun q4 =>
    (f_X2_forgetAll q4.2).bind fun q5 =>
    f_X10_roads_b43 q1.1 (gs q5.2 12 0)
theorem t_X10_roads_b43 {S : jS} (hS : jCok S) {d : Nat} {Q : Option Value → jx_H → Prop} {x1 : Int32} {σ : jT} (h : jw (f_X10_roads_b43 x1 σ) (fun q => Q (some (.int q.1)) (jh S q.2))) : jx_Ex (d + 5) jm_l131 jm_b131_43 [.ref 0, .int x1] [] (jh S σ) Q := by
  unfold f_X10_roads_b43 at h
  refine xo_2 rfl ?_
  refine xc_33 (i := 0) (q := 1) hS ly0 rfl (xc_P hS (by decide)) ?_
  refine xo_49 (st' := []) rfl rfl (xc_ly hS ly1) rfl (Nat.le_of_ble_eq_true rfl) ?_
  refine t_X9_clear hS ?_
  refine jw_mono (jw_bind h) (fun q1 h => ?_)
  show jx_Ex _ _ _ _ [] (jh S q1.2) _
  refine xo_0 rfl ?_
  refine xo_8 ?_
  refine xo_62 (t := jm_b131_65) rfl (fun hc2 => ?_) (fun hc2 => ?_)
  · replace h := jw_pos hc2 h
    refine xo_8 ?_
    refine xo_0 rfl ?_
    refine xo_15 ?_
    replace h := jw_some h
    exact xo_69 h
  · replace h := jw_neg hc2 h
    refine xo_2 rfl ?_
    refine xc_33 (i := 1) (q := 3) hS ly0 rfl (xc_P hS (by decide)) ?_
    refine xo_49 (st' := []) rfl rfl (xc_ly hS ly3) rfl (Nat.le_of_ble_eq_true rfl) ?_
    refine t_X3_places hS ?_
    refine jw_mono (jw_bind h) (fun q3 h => ?_)
    show jx_Ex _ _ _ _ [.int q3.1] (jh S q3.2) _
    refine xo_54 (t := jm_b131_68) rfl ?_
    replace h := jw_some h
    exact xo_69 h
theorem t_X10_roads {S : jS} (hS : jCok S) {d : Nat} {Q : Option Value → jx_H → Prop} {σ : jT} (h : jw (f_X10_roads σ) (fun q => Q (some (.int q.1)) (jh S q.2))) : jx_Sp (d + 5) 131 [.ref 0] (jh S σ) Q := by
  refine ⟨jm_i131, jm_at131, rfl, rfl, ?_⟩
  show jx_Ex _ jm_l131 jm_b131_0 [.ref 0, .retAddr 0] [] _ _
  unfold f_X10_roads at h
  refine xo_2 rfl ?_
  refine xc_33 (i := 0) (q := 1) hS ly0 rfl (xc_P hS (by decide)) ?_
  refine xo_50 (st' := []) rfl rfl rfl (Nat.le_of_ble_eq_true rfl) ?_
  refine t_X1_inRoads_1 hS ?_
  refine jw_mono (jw_bind h) (fun q1 h => ?_)
  show jx_Ex _ _ _ _ [.int q1.1] (jh S q1.2) _
  refine xo_4 (ls' := [.ref 0, .int q1.1]) rfl ?_
  refine xo_0 rfl ?_
  refine xo_8 ?_
  refine xo_62 (t := jm_b131_43) rfl (fun hc2 => ?_) (fun hc2 => ?_)
  · replace h := jw_pos hc2 h
    exact t_X10_roads_b43 hS h
  · replace h := jw_neg hc2 h
    refine xo_2 rfl ?_
    refine xc_33 (i := 1) (q := 3) hS ly0 rfl (xc_P hS (by decide)) ?_
    refine xo_2 rfl ?_
    refine xc_33 (i := 0) (q := 1) hS ly0 rfl (xc_P hS (by decide)) ?_
    refine xo_49 (st' := []) rfl rfl (xc_ly hS ly3) rfl (Nat.le_of_ble_eq_true rfl) ?_
    refine t_X3_lay_1 hS ?_
    refine jw_mono (jw_bind h) (fun q3 h => ?_)
    show jx_Ex _ _ _ _ [] (jh S q3.2) _
    refine xo_2 rfl ?_
    refine xc_33 (i := 3) (q := 12) hS ly0 rfl (xc_P hS (by decide)) ?_
    refine xo_49 (st' := []) rfl rfl (xc_ly hS ly12) rfl (Nat.le_of_ble_eq_true rfl) ?_
    refine t_X8_clear hS ?_
    refine jw_mono (jw_bind h) (fun q4 h => ?_)
    show jx_Ex _ _ _ _ [] (jh S q4.2) _
    refine xo_2 rfl ?_
    refine xc_33 (i := 4) (q := 14) hS ly0 rfl (xc_P hS (by decide)) ?_
    refine xo_49 (st' := []) rfl rfl (xc_ly hS ly14) rfl (Nat.le_of_ble_eq_true rfl) ?_
    refine t_X2_forgetAll hS ?_
    refine jw_mono (jw_bind h) (fun q5 h => ?_)
    show jx_Ex _ _ _ _ [] (jh S q5.2) _
    refine xo_2 rfl ?_
    refine xo_8 ?_
    refine xc_34 (i := 12) hS ly0 rfl ⟨Nat.le_of_ble_eq_true rfl, Nat.le_of_ble_eq_true rfl⟩ ?_
    exact t_X10_roads_b43 hS h
/-- Land.riderCount, at ['x.land'] -/
def f_X3_riderCount (σ : jT) : Option (Int32 × jT) :=
  some ((σ.1 197), σ)
theorem t_X3_riderCount {S : jS} (hS : jCok S) {d : Nat} {Q : Option Value → jx_H → Prop} {σ : jT} (h : jw (f_X3_riderCount σ) (fun q => Q (some (.int q.1)) (jh S q.2))) : jx_Sp (d) 28 [.ref 3] (jh S σ) Q := by
  refine ⟨jm_i28, jm_at28, rfl, rfl, ?_⟩
  show jx_Ex _ jm_l28 jm_b28_0 [.ref 3] [] _ _
  unfold f_X3_riderCount at h
  refine xo_2 rfl ?_
  refine xc_32 (i := 197) (v := (σ.1 197)) hS ly3 rfl ⟨Nat.le_of_ble_eq_true rfl, Nat.le_of_ble_eq_true rfl⟩ rfl ?_
  replace h := jw_some h
  exact xo_69 h
/-- Text.number, at ['x.text', 'int'] -/
def f_X9_number_b44 (k4 : Int32 → Int32 → Int32 → jT → Option (Int32 × jT)) (x1 : Int32) (x3 : Int32) (x4 : Int32) (s0 : Int32) (σ : jT) : Option (Int32 × jT) :=
  k4 x1 ((s0 + x4) - 48) (x3 + 1) (gs σ 67 ((σ.1 67) + 1))
def f_X9_number_b4 : Nat → Int32 → Int32 → Int32 → jT → Option (Int32 × jT)
  | 0, _, _, _, _ => none
  | n + 1, x1, x2, x3, σ =>
    if x1 ≤ x3 then
      some (x2, σ)
    else
      (f_X9_peek σ).bind fun q2 =>
      if q2.1 < 48 then
        some (x2, q2.2)
      else
        if q2.1 ≤ 57 then
          if ¬ x2 = (-1) then
            f_X9_number_b44 (f_X9_number_b4 n) x1 x3 q2.1 (x2 * 10) q2.2
          else
            f_X9_number_b44 (f_X9_number_b4 n) x1 x3 q2.1 0 q2.2
        else
          some (x2, q2.2)
def f_X9_number (x1 : Int32) (σ : jT) : Option (Int32 × jT) :=
  f_X9_number_b4 1000 x1 (-1) 0 σ
theorem t_X9_number_b44 {S : jS} (hS : jCok S) {d : Nat} {Q : Option Value → jx_H → Prop} {k4 : Int32 → Int32 → Int32 → jT → Option (Int32 × jT)} (hk4 : ∀ {x1 : Int32} {x2 : Int32} {x3 : Int32} {w4 : Value} {σ : jT}, jw (k4 x1 x2 x3 σ) (fun q => Q (some (.int q.1)) (jh S q.2)) → jx_Ex (d + 1) jm_l126 jm_b126_4 [.ref 1, .int x1, .int x2, .int x3, w4] [] (jh S σ) Q) {x1 : Int32} {x3 : Int32} {x4 : Int32} {s0 : Int32} {w2 : Value} {σ : jT} (h : jw (f_X9_number_b44 k4 x1 x3 x4 s0 σ) (fun q => Q (some (.int q.1)) (jh S q.2))) : jx_Ex (d + 1) jm_l126 jm_b126_44 [.ref 1, .int x1, w2, .int x3, .int x4] [.int s0] (jh S σ) Q := by
  unfold f_X9_number_b44 at h
  refine xo_1 rfl ?_
  refine xo_14 ?_
  refine xo_9 ?_
  refine xo_15 ?_
  refine xo_4 (ls' := [.ref 1, .int x1, .int ((s0 + x4) - 48), .int x3, .int x4]) rfl ?_
  refine xo_2 rfl ?_
  refine xo_28r ?_
  refine xc_32 (i := 67) (v := (σ.1 67)) hS ly1 rfl ⟨Nat.le_of_ble_eq_true rfl, Nat.le_of_ble_eq_true rfl⟩ rfl ?_
  refine xo_8 ?_
  refine xo_14 ?_
  refine xc_34 (i := 67) hS ly1 rfl ⟨Nat.le_of_ble_eq_true rfl, Nat.le_of_ble_eq_true rfl⟩ ?_
  refine xo_13 (ls' := [.ref 1, .int x1, .int ((s0 + x4) - 48), .int (x3 + 1), .int x4]) rfl rfl ?_
  refine xo_54 (t := jm_b126_4) rfl ?_
  exact hk4 h
theorem t_X9_number_b4 {S : jS} (hS : jCok S) {d : Nat} {Q : Option Value → jx_H → Prop} : ∀ (n : Nat) {x1 : Int32} {x2 : Int32} {x3 : Int32} {w4 : Value} {σ : jT}, jw (f_X9_number_b4 n x1 x2 x3 σ) (fun q => Q (some (.int q.1)) (jh S q.2)) → jx_Ex (d + 1) jm_l126 jm_b126_4 [.ref 1, .int x1, .int x2, .int x3, w4] [] (jh S σ) Q := by
  intro n
  induction n with
  | zero => intro x1 x2 x3 w4 σ h; exact jw_none h
  | succ n ih =>
    intro x1 x2 x3 w4 σ h
    rw [f_X9_number_b4] at h
    refine xo_0 rfl ?_
    refine xo_0 rfl ?_
    refine xo_64 (t := jm_b126_67) rfl (fun hc1 => ?_) (fun hc1 => ?_)
    · replace h := jw_pos hc1 h
      refine xo_0 rfl ?_
      replace h := jw_some h
      exact xo_69 h
    · replace h := jw_neg hc1 h
      refine xo_2 rfl ?_
      refine xo_49 (st' := []) rfl rfl (xc_ly hS ly1) rfl (Nat.le_of_ble_eq_true rfl) ?_
      refine t_X9_peek hS ?_
      refine jw_mono (jw_bind h) (fun q2 h => ?_)
      show jx_Ex _ _ _ _ [.int q2.1] (jh S q2.2) _
      refine xo_5 (ls' := [.ref 1, .int x1, .int x2, .int x3, .int q2.1]) rfl ?_
      refine xo_1 rfl ?_
      refine xo_9 ?_
      refine xo_63 (t := jm_b126_29) rfl (fun hc3 => ?_) (fun hc3 => ?_)
      · replace h := jw_pos hc3 h
        refine xo_0 rfl ?_
        replace h := jw_some h
        exact xo_69 h
      · replace h := jw_neg hc3 h
        refine xo_1 rfl ?_
        refine xo_9 ?_
        refine xo_66 (t := jm_b126_31) rfl (fun hc4 => ?_) (fun hc4 => ?_)
        · replace h := jw_pos hc4 h
          refine xo_0 rfl ?_
          refine xo_8 ?_
          refine xo_62 (t := jm_b126_40) rfl (fun hc5 => ?_) (fun hc5 => ?_)
          · replace h := jw_pos hc5 h
            refine xo_0 rfl ?_
            refine xo_9 ?_
            refine xo_16 ?_
            exact t_X9_number_b44 hS ih h
          · replace h := jw_neg hc5 h
            refine xo_8 ?_
            refine xo_54 (t := jm_b126_44) rfl ?_
            exact t_X9_number_b44 hS ih h
        · replace h := jw_neg hc4 h
          refine xo_0 rfl ?_
          replace h := jw_some h
          exact xo_69 h
theorem t_X9_number {S : jS} (hS : jCok S) {d : Nat} {Q : Option Value → jx_H → Prop} {x1 : Int32} {σ : jT} (h : jw (f_X9_number x1 σ) (fun q => Q (some (.int q.1)) (jh S q.2))) : jx_Sp (d + 1) 126 [.ref 1, .int x1] (jh S σ) Q := by
  refine ⟨jm_i126, jm_at126, rfl, rfl, ?_⟩
  show jx_Ex _ jm_l126 jm_b126_0 [.ref 1, .int x1, .retAddr 0, .retAddr 0, .retAddr 0] [] _ _
  unfold f_X9_number at h
  refine xo_8 ?_
  refine xo_4 (ls' := [.ref 1, .int x1, .int (-1), .retAddr 0, .retAddr 0]) rfl ?_
  refine xo_8 ?_
  refine xo_4 (ls' := [.ref 1, .int x1, .int (-1), .int 0, .retAddr 0]) rfl ?_
  exact t_X9_number_b4 hS 1000 h
/-- Grammar.inRiderLine, at ['x.text', 'int'] -/
def f_X1_inRiderLine_1_b31 (σ : jT) : Option (Int32 × jT) :=
  (f_X9_position σ).bind fun q1 =>
  some (q1.1, q1.2)
def f_X1_inRiderLine_1_b38 : Nat → Int32 → Int32 → jT → Option (Int32 × jT)
  | 0, _, _, _ => none
  | n + 1, x1, x3, σ =>
    if x1 ≤ x3 then
      some ((-1), σ)
    else
      (f_X9_takeOf 48 50 σ).bind fun q2 =>
      if ¬ q2.1 = 0 then
        f_X1_inRiderLine_1_b38 n x1 (x3 + 1) q2.2
      else
        (f_X9_position q2.2).bind fun q4 =>
        some (q4.1, q4.2)
def f_X1_inRiderLine_1 (x1 : Int32) (σ : jT) : Option (Int32 × jT) :=
  (f_X9_number 2 σ).bind fun q1 =>
  if ¬ q1.1 = 0 then
    if q1.1 = (-1) then
      f_X1_inRiderLine_1_b31 q1.2
    else
      (f_X9_take 58 q1.2).bind fun q4 =>
      if ¬ q4.1 = 0 then
        f_X1_inRiderLine_1_b38 1000 x1 0 q4.2
      else
        f_X1_inRiderLine_1_b31 q4.2
  else
    (f_X9_position q1.2).bind fun q6 =>
    some ((q6.1 - 1), q6.2)
theorem t_X1_inRiderLine_1_b31 {S : jS} (hS : jCok S) {d : Nat} {Q : Option Value → jx_H → Prop} {w1 : Value} {w2 : Value} {w3 : Value} {σ : jT} (h : jw (f_X1_inRiderLine_1_b31 σ) (fun q => Q (some (.int q.1)) (jh S q.2))) : jx_Ex (d + 2) jm_l14 jm_b14_31 [.ref 1, w1, w2, w3] [] (jh S σ) Q := by
  unfold f_X1_inRiderLine_1_b31 at h
  refine xo_2 rfl ?_
  refine xo_49 (st' := []) rfl rfl (xc_ly hS ly1) rfl (Nat.le_of_ble_eq_true rfl) ?_
  refine t_X9_position hS ?_
  refine jw_mono (jw_bind h) (fun q1 h => ?_)
  show jx_Ex _ _ _ _ [.int q1.1] (jh S q1.2) _
  replace h := jw_some h
  exact xo_69 h
theorem t_X1_inRiderLine_1_b38 {S : jS} (hS : jCok S) {d : Nat} {Q : Option Value → jx_H → Prop} : ∀ (n : Nat) {x1 : Int32} {x3 : Int32} {w2 : Value} {σ : jT}, jw (f_X1_inRiderLine_1_b38 n x1 x3 σ) (fun q => Q (some (.int q.1)) (jh S q.2)) → jx_Ex (d + 2) jm_l14 jm_b14_38 [.ref 1, .int x1, w2, .int x3] [] (jh S σ) Q := by
  intro n
  induction n with
  | zero => intro x1 x3 w2 σ h; exact jw_none h
  | succ n ih =>
    intro x1 x3 w2 σ h
    rw [f_X1_inRiderLine_1_b38] at h
    refine xo_0 rfl ?_
    refine xo_0 rfl ?_
    refine xo_64 (t := jm_b14_65) rfl (fun hc1 => ?_) (fun hc1 => ?_)
    · replace h := jw_pos hc1 h
      refine xo_8 ?_
      replace h := jw_some h
      exact xo_69 h
    · replace h := jw_neg hc1 h
      refine xo_2 rfl ?_
      refine xo_9 ?_
      refine xo_9 ?_
      refine xo_49 (st' := []) rfl rfl (xc_ly hS ly1) rfl (Nat.le_of_ble_eq_true rfl) ?_
      refine t_X9_takeOf hS ?_
      refine jw_mono (jw_bind h) (fun q2 h => ?_)
      show jx_Ex _ _ _ _ [.int q2.1] (jh S q2.2) _
      refine xo_56 (t := jm_b14_59) rfl (fun hc3 => ?_) (fun hc3 => ?_)
      · replace h := jw_pos hc3 h
        refine xo_13 (ls' := [.ref 1, .int x1, w2, .int (x3 + 1)]) rfl rfl ?_
        refine xo_54 (t := jm_b14_38) rfl ?_
        exact ih h
      · replace h := jw_neg hc3 h
        refine xo_2 rfl ?_
        refine xo_49 (st' := []) rfl rfl (xc_ly hS ly1) rfl (Nat.le_of_ble_eq_true rfl) ?_
        refine t_X9_position hS ?_
        refine jw_mono (jw_bind h) (fun q4 h => ?_)
        show jx_Ex _ _ _ _ [.int q4.1] (jh S q4.2) _
        replace h := jw_some h
        exact xo_69 h
theorem t_X1_inRiderLine_1 {S : jS} (hS : jCok S) {d : Nat} {Q : Option Value → jx_H → Prop} {x1 : Int32} {σ : jT} (h : jw (f_X1_inRiderLine_1 x1 σ) (fun q => Q (some (.int q.1)) (jh S q.2))) : jx_Sp (d + 2) 14 [.ref 1, .int x1] (jh S σ) Q := by
  refine ⟨jm_i14, jm_at14, rfl, rfl, ?_⟩
  show jx_Ex _ jm_l14 jm_b14_0 [.ref 1, .int x1, .retAddr 0, .retAddr 0] [] _ _
  unfold f_X1_inRiderLine_1 at h
  refine xo_2 rfl ?_
  refine xo_8 ?_
  refine xo_49 (st' := []) rfl rfl (xc_ly hS ly1) rfl (Nat.le_of_ble_eq_true rfl) ?_
  refine t_X9_number hS ?_
  refine jw_mono (jw_bind h) (fun q1 h => ?_)
  show jx_Ex _ _ _ _ [.int q1.1] (jh S q1.2) _
  refine xo_4 (ls' := [.ref 1, .int x1, .int q1.1, .retAddr 0]) rfl ?_
  refine xo_0 rfl ?_
  refine xo_56 (t := jm_b14_17) rfl (fun hc2 => ?_) (fun hc2 => ?_)
  · replace h := jw_pos hc2 h
    refine xo_0 rfl ?_
    refine xo_8 ?_
    refine xo_61 (t := jm_b14_31) rfl (fun hc3 => ?_) (fun hc3 => ?_)
    · replace h := jw_pos hc3 h
      exact t_X1_inRiderLine_1_b31 hS h
    · replace h := jw_neg hc3 h
      refine xo_2 rfl ?_
      refine xo_9 ?_
      refine xo_49 (st' := []) rfl rfl (xc_ly hS ly1) rfl (Nat.le_of_ble_eq_true rfl) ?_
      refine t_X9_take hS ?_
      refine jw_mono (jw_bind h) (fun q4 h => ?_)
      show jx_Ex _ _ _ _ [.int q4.1] (jh S q4.2) _
      refine xo_56 (t := jm_b14_36) rfl (fun hc5 => ?_) (fun hc5 => ?_)
      · replace h := jw_pos hc5 h
        refine xo_8 ?_
        refine xo_4 (ls' := [.ref 1, .int x1, .int q1.1, .int 0]) rfl ?_
        exact t_X1_inRiderLine_1_b38 hS 1000 h
      · replace h := jw_neg hc5 h
        exact t_X1_inRiderLine_1_b31 hS h
  · replace h := jw_neg hc2 h
    refine xo_2 rfl ?_
    refine xo_49 (st' := []) rfl rfl (xc_ly hS ly1) rfl (Nat.le_of_ble_eq_true rfl) ?_
    refine t_X9_position hS ?_
    refine jw_mono (jw_bind h) (fun q6 h => ?_)
    show jx_Ex _ _ _ _ [.int q6.1] (jh S q6.2) _
    refine xo_8 ?_
    refine xo_15 ?_
    replace h := jw_some h
    exact xo_69 h
/-- Grammar.inRiders, at ['x.text', 'int', 'int'] -/
def f_X1_inRiders_1_b8 : Nat → Int32 → Int32 → Int32 → jT → Option (Int32 × jT)
  | 0, _, _, _, _ => none
  | n + 1, x1, x2, x3, σ =>
    if x2 ≤ x3 then
      (f_X9_position σ).bind fun q2 =>
      some (q2.1, q2.2)
    else
      (f_X1_inRiderLine_1 x1 σ).bind fun q3 =>
      if q3.1 = (-1) then
        (f_X9_take 59 q3.2).bind fun q5 =>
        if ¬ q5.1 = 0 then
          f_X1_inRiders_1_b8 n x1 x2 (x3 + 1) q5.2
        else
          (f_X9_goesOn q5.2).bind fun q7 =>
          some (q7.1, q7.2)
      else
        some (q3.1, q3.2)
def f_X1_inRiders_1 (x1 : Int32) (x2 : Int32) (σ : jT) : Option (Int32 × jT) :=
  (f_X9_open 76 σ).bind fun q1 =>
  f_X1_inRiders_1_b8 1000 x1 x2 0 q1.2
theorem t_X1_inRiders_1_b8 {S : jS} (hS : jCok S) {d : Nat} {Q : Option Value → jx_H → Prop} : ∀ (n : Nat) {x1 : Int32} {x2 : Int32} {x3 : Int32} {w4 : Value} {σ : jT}, jw (f_X1_inRiders_1_b8 n x1 x2 x3 σ) (fun q => Q (some (.int q.1)) (jh S q.2)) → jx_Ex (d + 3) jm_l13 jm_b13_8 [.ref 1, .int x1, .int x2, .int x3, w4] [] (jh S σ) Q := by
  intro n
  induction n with
  | zero => intro x1 x2 x3 w4 σ h; exact jw_none h
  | succ n ih =>
    intro x1 x2 x3 w4 σ h
    rw [f_X1_inRiders_1_b8] at h
    refine xo_0 rfl ?_
    refine xo_0 rfl ?_
    refine xo_64 (t := jm_b13_49) rfl (fun hc1 => ?_) (fun hc1 => ?_)
    · replace h := jw_pos hc1 h
      refine xo_2 rfl ?_
      refine xo_49 (st' := []) rfl rfl (xc_ly hS ly1) rfl (Nat.le_of_ble_eq_true rfl) ?_
      refine t_X9_position hS ?_
      refine jw_mono (jw_bind h) (fun q2 h => ?_)
      show jx_Ex _ _ _ _ [.int q2.1] (jh S q2.2) _
      replace h := jw_some h
      exact xo_69 h
    · replace h := jw_neg hc1 h
      refine xo_2 rfl ?_
      refine xo_0 rfl ?_
      refine xo_50 (st' := []) rfl rfl rfl (Nat.le_of_ble_eq_true rfl) ?_
      refine t_X1_inRiderLine_1 hS ?_
      refine jw_mono (jw_bind h) (fun q3 h => ?_)
      show jx_Ex _ _ _ _ [.int q3.1] (jh S q3.2) _
      refine xo_5 (ls' := [.ref 1, .int x1, .int x2, .int x3, .int q3.1]) rfl ?_
      refine xo_1 rfl ?_
      refine xo_8 ?_
      refine xo_61 (t := jm_b13_29) rfl (fun hc4 => ?_) (fun hc4 => ?_)
      · replace h := jw_pos hc4 h
        refine xo_2 rfl ?_
        refine xo_9 ?_
        refine xo_49 (st' := []) rfl rfl (xc_ly hS ly1) rfl (Nat.le_of_ble_eq_true rfl) ?_
        refine t_X9_take hS ?_
        refine jw_mono (jw_bind h) (fun q5 h => ?_)
        show jx_Ex _ _ _ _ [.int q5.1] (jh S q5.2) _
        refine xo_56 (t := jm_b13_43) rfl (fun hc6 => ?_) (fun hc6 => ?_)
        · replace h := jw_pos hc6 h
          refine xo_13 (ls' := [.ref 1, .int x1, .int x2, .int (x3 + 1), .int q3.1]) rfl rfl ?_
          refine xo_54 (t := jm_b13_8) rfl ?_
          exact ih h
        · replace h := jw_neg hc6 h
          refine xo_2 rfl ?_
          refine xo_49 (st' := []) rfl rfl (xc_ly hS ly1) rfl (Nat.le_of_ble_eq_true rfl) ?_
          refine t_X9_goesOn hS ?_
          refine jw_mono (jw_bind h) (fun q7 h => ?_)
          show jx_Ex _ _ _ _ [.int q7.1] (jh S q7.2) _
          replace h := jw_some h
          exact xo_69 h
      · replace h := jw_neg hc4 h
        refine xo_1 rfl ?_
        replace h := jw_some h
        exact xo_69 h
theorem t_X1_inRiders_1 {S : jS} (hS : jCok S) {d : Nat} {Q : Option Value → jx_H → Prop} {x1 : Int32} {x2 : Int32} {σ : jT} (h : jw (f_X1_inRiders_1 x1 x2 σ) (fun q => Q (some (.int q.1)) (jh S q.2))) : jx_Sp (d + 3) 13 [.ref 1, .int x1, .int x2] (jh S σ) Q := by
  refine ⟨jm_i13, jm_at13, rfl, rfl, ?_⟩
  show jx_Ex _ jm_l13 jm_b13_0 [.ref 1, .int x1, .int x2, .retAddr 0, .retAddr 0] [] _ _
  unfold f_X1_inRiders_1 at h
  refine xo_2 rfl ?_
  refine xo_9 ?_
  refine xo_49 (st' := []) rfl rfl (xc_ly hS ly1) rfl (Nat.le_of_ble_eq_true rfl) ?_
  refine t_X9_open hS ?_
  refine jw_mono (jw_bind h) (fun q1 h => ?_)
  show jx_Ex _ _ _ _ [] (jh S q1.2) _
  refine xo_8 ?_
  refine xo_4 (ls' := [.ref 1, .int x1, .int x2, .int 0, .retAddr 0]) rfl ?_
  exact t_X1_inRiders_1_b8 hS 1000 h
/-- Standing.set, at ['x.now', 'int', 'int', 'int'] -/
def f_X8_set (x1 : Int32) (x2 : Int32) (x3 : Int32) (σ : jT) : Option (Int32 × jT) :=
  if x2 < 0 then
    some (0, σ)
  else
    if 6 ≤ x2 then
      some (0, σ)
    else
      if jx_in (x1 + x2) 28 then
      some (0, (gA σ 13 (x1 + x2).toNatClampNeg x3))
      else none
theorem t_X8_set {S : jS} (hS : jCok S) {d : Nat} {Q : Option Value → jx_H → Prop} {x1 : Int32} {x2 : Int32} {x3 : Int32} {σ : jT} (h : jw (f_X8_set x1 x2 x3 σ) (fun q => Q none (jh S q.2))) : jx_Sp (d) 91 [.ref 12, .int x1, .int x2, .int x3] (jh S σ) Q := by
  refine ⟨jm_i91, jm_at91, rfl, rfl, ?_⟩
  show jx_Ex _ jm_l91 jm_b91_0 [.ref 12, .int x1, .int x2, .int x3] [] _ _
  unfold f_X8_set at h
  refine xo_0 rfl ?_
  refine xo_57 (t := jm_b91_19) rfl (fun hc1 => ?_) (fun hc1 => ?_)
  · replace h := jw_pos hc1 h
    replace h := jw_some h
    exact xo_71 h
  · replace h := jw_neg hc1 h
    refine xo_0 rfl ?_
    refine xo_9 ?_
    refine xo_64 (t := jm_b91_19) rfl (fun hc2 => ?_) (fun hc2 => ?_)
    · replace h := jw_pos hc2 h
      replace h := jw_some h
      exact xo_71 h
    · replace h := jw_neg hc2 h
      refine xo_2 rfl ?_
      refine xc_33 (i := 768) (q := 13) hS ly12 rfl (xc_P hS (by decide)) ?_
      refine xo_0 rfl ?_
      refine xo_0 rfl ?_
      refine xo_14 ?_
      refine xo_0 rfl ?_
      obtain ⟨hi3, h⟩ := jw_chk h
      refine xc_41 (j := (x1 + x2).toNatClampNeg) hS ly13 ⟨Nat.le_of_ble_eq_true rfl, Nat.le_of_ble_eq_true rfl⟩ hi3 rfl ?_
      replace h := jw_some h
      exact xo_71 h
/-- Standing.(that of the table), at ['x.now', 'int', 'int'] -/
def f_X8_admit (x1 : Int32) (x2 : Int32) (σ : jT) : Option (Int32 × jT) :=
  (f_X8_set 0 x1 0 σ).bind fun q1 =>
  (f_X8_set 6 x1 0 q1.2).bind fun q2 =>
  (f_X8_set 12 x1 (-1) q2.2).bind fun q3 =>
  (f_X8_set 18 x1 x2 q3.2).bind fun q4 =>
  some (0, q4.2)
theorem t_X8_admit {S : jS} (hS : jCok S) {d : Nat} {Q : Option Value → jx_H → Prop} {x1 : Int32} {x2 : Int32} {σ : jT} (h : jw (f_X8_admit x1 x2 σ) (fun q => Q none (jh S q.2))) : jx_Sp (d + 1) 92 [.ref 12, .int x1, .int x2] (jh S σ) Q := by
  refine ⟨jm_i92, jm_at92, rfl, rfl, ?_⟩
  show jx_Ex _ jm_l92 jm_b92_0 [.ref 12, .int x1, .int x2] [] _ _
  unfold f_X8_admit at h
  refine xo_2 rfl ?_
  refine xo_8 ?_
  refine xo_0 rfl ?_
  refine xo_8 ?_
  refine xo_49 (st' := []) rfl rfl (xc_ly hS ly12) rfl (Nat.le_of_ble_eq_true rfl) ?_
  refine t_X8_set hS ?_
  refine jw_mono (jw_bind h) (fun q1 h => ?_)
  show jx_Ex _ _ _ _ [] (jh S q1.2) _
  refine xo_2 rfl ?_
  refine xo_9 ?_
  refine xo_0 rfl ?_
  refine xo_8 ?_
  refine xo_49 (st' := []) rfl rfl (xc_ly hS ly12) rfl (Nat.le_of_ble_eq_true rfl) ?_
  refine t_X8_set hS ?_
  refine jw_mono (jw_bind h) (fun q2 h => ?_)
  show jx_Ex _ _ _ _ [] (jh S q2.2) _
  refine xo_2 rfl ?_
  refine xo_9 ?_
  refine xo_0 rfl ?_
  refine xo_8 ?_
  refine xo_49 (st' := []) rfl rfl (xc_ly hS ly12) rfl (Nat.le_of_ble_eq_true rfl) ?_
  refine t_X8_set hS ?_
  refine jw_mono (jw_bind h) (fun q3 h => ?_)
  show jx_Ex _ _ _ _ [] (jh S q3.2) _
  refine xo_2 rfl ?_
  refine xo_9 ?_
  refine xo_0 rfl ?_
  refine xo_0 rfl ?_
  refine xo_49 (st' := []) rfl rfl (xc_ly hS ly12) rfl (Nat.le_of_ble_eq_true rfl) ?_
  refine t_X8_set hS ?_
  refine jw_mono (jw_bind h) (fun q4 h => ?_)
  show jx_Ex _ _ _ _ [] (jh S q4.2) _
  replace h := jw_some h
  exact xo_71 h
/-- Land.(that of the table), at ['x.land', 'int'] -/
def f_X3_admit (x1 : Int32) (σ : jT) : Option (Int32 × jT) :=
  if 6 ≤ (σ.1 197) then
    some (0, σ)
  else
    if jx_in (σ.1 197) 6 then
    some (0, (gs (gA σ 6 (σ.1 197).toNatClampNeg x1) 197 ((σ.1 197) + 1)))
    else none
theorem t_X3_admit {S : jS} (hS : jCok S) {d : Nat} {Q : Option Value → jx_H → Prop} {x1 : Int32} {σ : jT} (h : jw (f_X3_admit x1 σ) (fun q => Q none (jh S q.2))) : jx_Sp (d) 39 [.ref 3, .int x1] (jh S σ) Q := by
  refine ⟨jm_i39, jm_at39, rfl, rfl, ?_⟩
  show jx_Ex _ jm_l39 jm_b39_0 [.ref 3, .int x1] [] _ _
  unfold f_X3_admit at h
  refine xo_2 rfl ?_
  refine xc_32 (i := 197) (v := (σ.1 197)) hS ly3 rfl ⟨Nat.le_of_ble_eq_true rfl, Nat.le_of_ble_eq_true rfl⟩ rfl ?_
  refine xo_9 ?_
  refine xo_64 (t := jm_b39_29) rfl (fun hc1 => ?_) (fun hc1 => ?_)
  · replace h := jw_pos hc1 h
    replace h := jw_some h
    exact xo_71 h
  · replace h := jw_neg hc1 h
    refine xo_2 rfl ?_
    refine xc_33 (i := 194) (q := 6) hS ly3 rfl (xc_P hS (by decide)) ?_
    refine xo_2 rfl ?_
    refine xc_32 (i := 197) (v := (σ.1 197)) hS ly3 rfl ⟨Nat.le_of_ble_eq_true rfl, Nat.le_of_ble_eq_true rfl⟩ rfl ?_
    refine xo_0 rfl ?_
    obtain ⟨hi2, h⟩ := jw_chk h
    refine xc_41 (j := (σ.1 197).toNatClampNeg) hS ly6 ⟨Nat.le_of_ble_eq_true rfl, Nat.le_of_ble_eq_true rfl⟩ hi2 rfl ?_
    refine xo_2 rfl ?_
    refine xo_28r ?_
    refine xc_32 (i := 197) (v := (σ.1 197)) hS ly3 rfl ⟨Nat.le_of_ble_eq_true rfl, Nat.le_of_ble_eq_true rfl⟩ rfl ?_
    refine xo_8 ?_
    refine xo_14 ?_
    refine xc_34 (i := 197) hS ly3 rfl ⟨Nat.le_of_ble_eq_true rfl, Nat.le_of_ble_eq_true rfl⟩ ?_
    replace h := jw_some h
    exact xo_71 h
/-- OfDifferentMinds.admitAll, at ['x'] -/
def f_X10_admitAll_b137 (x1 : Int32) (σ : jT) : Option (Int32 × jT) :=
  (f_X2_forgetAll σ).bind fun q1 =>
  some (x1, q1.2)
def f_X10_admitAll_b54 (k13 : Int32 → Int32 → jT → Option (Int32 × jT)) : Nat → Int32 → Int32 → Int32 → Int32 → Int32 → jT → Option (Int32 × jT)
  | 0, _, _, _, _, _, _ => none
  | n + 1, x1, x2, x3, x4, x5, σ =>
    (f_X3_places σ).bind fun q1 =>
    if q1.1 ≤ x5 then
      (f_X9_take 59 q1.2).bind fun q3 =>
      (f_X3_riderCount q3.2).bind fun q4 =>
      (f_X8_admit q4.1 x4 q4.2).bind fun q5 =>
      (f_X3_admit x3 q5.2).bind fun q6 =>
      k13 (x1 + 1) (x2 + 1) q6.2
    else
      (f_X9_number 1 q1.2).bind fun q7 =>
      f_X10_admitAll_b54 k13 n x1 x2 x3 (x4 ||| ((jx_max 0 q7.1) <<< ((2 * x5) &&& 31))) (x5 + 1) q7.2
def f_X10_admitAll_b13 : Nat → Int32 → Int32 → jT → Option (Int32 × jT)
  | 0, _, _, _ => none
  | n + 1, x1, x2, σ =>
    if 6 ≤ x2 then
      f_X10_admitAll_b137 x1 σ
    else
      (f_X9_isOver σ).bind fun q2 =>
      if ¬ q2.1 = 0 then
        f_X10_admitAll_b137 x1 q2.2
      else
        (f_X9_number 2 q2.2).bind fun q4 =>
        (f_X9_take 58 q4.2).bind fun q5 =>
        f_X10_admitAll_b54 (f_X10_admitAll_b13 n) 1000 x1 x2 q4.1 0 0 q5.2
def f_X10_admitAll (σ : jT) : Option (Int32 × jT) :=
  (f_X9_open 76 σ).bind fun q1 =>
  f_X10_admitAll_b13 1000 0 0 q1.2
theorem t_X10_admitAll_b137 {S : jS} (hS : jCok S) {d : Nat} {Q : Option Value → jx_H → Prop} {x1 : Int32} {w2 : Value} {w3 : Value} {w4 : Value} {w5 : Value} {σ : jT} (h : jw (f_X10_admitAll_b137 x1 σ) (fun q => Q (some (.int q.1)) (jh S q.2))) : jx_Ex (d + 2) jm_l133 jm_b133_137 [.ref 0, .int x1, w2, w3, w4, w5] [] (jh S σ) Q := by
  unfold f_X10_admitAll_b137 at h
  refine xo_2 rfl ?_
  refine xc_33 (i := 4) (q := 14) hS ly0 rfl (xc_P hS (by decide)) ?_
  refine xo_49 (st' := []) rfl rfl (xc_ly hS ly14) rfl (Nat.le_of_ble_eq_true rfl) ?_
  refine t_X2_forgetAll hS ?_
  refine jw_mono (jw_bind h) (fun q1 h => ?_)
  show jx_Ex _ _ _ _ [] (jh S q1.2) _
  refine xo_0 rfl ?_
  replace h := jw_some h
  exact xo_69 h
theorem t_X10_admitAll_b54 {S : jS} (hS : jCok S) {d : Nat} {Q : Option Value → jx_H → Prop} {k13 : Int32 → Int32 → jT → Option (Int32 × jT)} (hk13 : ∀ {x1 : Int32} {x2 : Int32} {w3 : Value} {w4 : Value} {w5 : Value} {σ : jT}, jw (k13 x1 x2 σ) (fun q => Q (some (.int q.1)) (jh S q.2)) → jx_Ex (d + 2) jm_l133 jm_b133_13 [.ref 0, .int x1, .int x2, w3, w4, w5] [] (jh S σ) Q) : ∀ (n : Nat) {x1 : Int32} {x2 : Int32} {x3 : Int32} {x4 : Int32} {x5 : Int32} {σ : jT}, jw (f_X10_admitAll_b54 k13 n x1 x2 x3 x4 x5 σ) (fun q => Q (some (.int q.1)) (jh S q.2)) → jx_Ex (d + 2) jm_l133 jm_b133_54 [.ref 0, .int x1, .int x2, .int x3, .int x4, .int x5] [] (jh S σ) Q := by
  intro n
  induction n with
  | zero => intro x1 x2 x3 x4 x5 σ h; exact jw_none h
  | succ n ih =>
    intro x1 x2 x3 x4 x5 σ h
    rw [f_X10_admitAll_b54] at h
    refine xo_1 rfl ?_
    refine xo_2 rfl ?_
    refine xc_33 (i := 1) (q := 3) hS ly0 rfl (xc_P hS (by decide)) ?_
    refine xo_49 (st' := [.int x5]) rfl rfl (xc_ly hS ly3) rfl (Nat.le_of_ble_eq_true rfl) ?_
    refine t_X3_places hS ?_
    refine jw_mono (jw_bind h) (fun q1 h => ?_)
    show jx_Ex _ _ _ _ [.int q1.1, .int x5] (jh S q1.2) _
    refine xo_64 (t := jm_b133_94) rfl (fun hc2 => ?_) (fun hc2 => ?_)
    · replace h := jw_pos hc2 h
      refine xo_2 rfl ?_
      refine xc_33 (i := 0) (q := 1) hS ly0 rfl (xc_P hS (by decide)) ?_
      refine xo_9 ?_
      refine xo_49 (st' := []) rfl rfl (xc_ly hS ly1) rfl (Nat.le_of_ble_eq_true rfl) ?_
      refine t_X9_take hS ?_
      refine jw_mono (jw_bind h) (fun q3 h => ?_)
      show jx_Ex _ _ _ _ [.int q3.1] (jh S q3.2) _
      refine xo_31 ?_
      refine xo_2 rfl ?_
      refine xc_33 (i := 3) (q := 12) hS ly0 rfl (xc_P hS (by decide)) ?_
      refine xo_2 rfl ?_
      refine xc_33 (i := 1) (q := 3) hS ly0 rfl (xc_P hS (by decide)) ?_
      refine xo_49 (st' := [.ref 12]) rfl rfl (xc_ly hS ly3) rfl (Nat.le_of_ble_eq_true rfl) ?_
      refine t_X3_riderCount hS ?_
      refine jw_mono (jw_bind h) (fun q4 h => ?_)
      show jx_Ex _ _ _ _ [.int q4.1, .ref 12] (jh S q4.2) _
      refine xo_1 rfl ?_
      refine xo_49 (st' := []) rfl rfl (xc_ly hS ly12) rfl (Nat.le_of_ble_eq_true rfl) ?_
      refine t_X8_admit hS ?_
      refine jw_mono (jw_bind h) (fun q5 h => ?_)
      show jx_Ex _ _ _ _ [] (jh S q5.2) _
      refine xo_2 rfl ?_
      refine xc_33 (i := 1) (q := 3) hS ly0 rfl (xc_P hS (by decide)) ?_
      refine xo_0 rfl ?_
      refine xo_49 (st' := []) rfl rfl (xc_ly hS ly3) rfl (Nat.le_of_ble_eq_true rfl) ?_
      refine t_X3_admit hS ?_
      refine jw_mono (jw_bind h) (fun q6 h => ?_)
      show jx_Ex _ _ _ _ [] (jh S q6.2) _
      refine xo_13 (ls' := [.ref 0, .int (x1 + 1), .int x2, .int x3, .int x4, .int x5]) rfl rfl ?_
      refine xo_13 (ls' := [.ref 0, .int (x1 + 1), .int (x2 + 1), .int x3, .int x4, .int x5]) rfl rfl ?_
      refine xo_54 (t := jm_b133_13) rfl ?_
      exact hk13 h
    · replace h := jw_neg hc2 h
      refine xo_1 rfl ?_
      refine xo_8 ?_
      refine xo_2 rfl ?_
      refine xc_33 (i := 0) (q := 1) hS ly0 rfl (xc_P hS (by decide)) ?_
      refine xo_8 ?_
      refine xo_49 (st' := [.int 0, .int x4]) rfl rfl (xc_ly hS ly1) rfl (Nat.le_of_ble_eq_true rfl) ?_
      refine t_X9_number hS ?_
      refine jw_mono (jw_bind h) (fun q7 h => ?_)
      show jx_Ex _ _ _ _ [.int q7.1, .int 0, .int x4] (jh S q7.2) _
      refine xo_72 (Nat.le_of_ble_eq_true rfl) ?_
      refine xo_8 ?_
      refine xo_1 rfl ?_
      refine xo_16 ?_
      refine xo_23 ?_
      refine xo_21 ?_
      refine xo_5 (ls' := [.ref 0, .int x1, .int x2, .int x3, .int (x4 ||| ((jx_max 0 q7.1) <<< ((2 * x5) &&& 31))), .int x5]) rfl ?_
      refine xo_13 (ls' := [.ref 0, .int x1, .int x2, .int x3, .int (x4 ||| ((jx_max 0 q7.1) <<< ((2 * x5) &&& 31))), .int (x5 + 1)]) rfl rfl ?_
      refine xo_54 (t := jm_b133_54) rfl ?_
      exact ih h
theorem t_X10_admitAll_b13 {S : jS} (hS : jCok S) {d : Nat} {Q : Option Value → jx_H → Prop} : ∀ (n : Nat) {x1 : Int32} {x2 : Int32} {w3 : Value} {w4 : Value} {w5 : Value} {σ : jT}, jw (f_X10_admitAll_b13 n x1 x2 σ) (fun q => Q (some (.int q.1)) (jh S q.2)) → jx_Ex (d + 2) jm_l133 jm_b133_13 [.ref 0, .int x1, .int x2, w3, w4, w5] [] (jh S σ) Q := by
  intro n
  induction n with
  | zero => intro x1 x2 w3 w4 w5 σ h; exact jw_none h
  | succ n ih =>
    intro x1 x2 w3 w4 w5 σ h
    rw [f_X10_admitAll_b13] at h
    refine xo_0 rfl ?_
    refine xo_9 ?_
    refine xo_64 (t := jm_b133_137) rfl (fun hc1 => ?_) (fun hc1 => ?_)
    · replace h := jw_pos hc1 h
      exact t_X10_admitAll_b137 hS h
    · replace h := jw_neg hc1 h
      refine xo_2 rfl ?_
      refine xc_33 (i := 0) (q := 1) hS ly0 rfl (xc_P hS (by decide)) ?_
      refine xo_49 (st' := []) rfl rfl (xc_ly hS ly1) rfl (Nat.le_of_ble_eq_true rfl) ?_
      refine t_X9_isOver hS ?_
      refine jw_mono (jw_bind h) (fun q2 h => ?_)
      show jx_Ex _ _ _ _ [.int q2.1] (jh S q2.2) _
      refine xo_56 (t := jm_b133_137) rfl (fun hc3 => ?_) (fun hc3 => ?_)
      · replace h := jw_pos hc3 h
        exact t_X10_admitAll_b137 hS h
      · replace h := jw_neg hc3 h
        refine xo_2 rfl ?_
        refine xc_33 (i := 0) (q := 1) hS ly0 rfl (xc_P hS (by decide)) ?_
        refine xo_8 ?_
        refine xo_49 (st' := []) rfl rfl (xc_ly hS ly1) rfl (Nat.le_of_ble_eq_true rfl) ?_
        refine t_X9_number hS ?_
        refine jw_mono (jw_bind h) (fun q4 h => ?_)
        show jx_Ex _ _ _ _ [.int q4.1] (jh S q4.2) _
        refine xo_4 (ls' := [.ref 0, .int x1, .int x2, .int q4.1, w4, w5]) rfl ?_
        refine xo_2 rfl ?_
        refine xc_33 (i := 0) (q := 1) hS ly0 rfl (xc_P hS (by decide)) ?_
        refine xo_9 ?_
        refine xo_49 (st' := []) rfl rfl (xc_ly hS ly1) rfl (Nat.le_of_ble_eq_true rfl) ?_
        refine t_X9_take hS ?_
        refine jw_mono (jw_bind h) (fun q5 h => ?_)
        show jx_Ex _ _ _ _ [.int q5.1] (jh S q5.2) _
        refine xo_31 ?_
        refine xo_8 ?_
        refine xo_5 (ls' := [.ref 0, .int x1, .int x2, .int q4.1, .int 0, w5]) rfl ?_
        refine xo_8 ?_
        refine xo_5 (ls' := [.ref 0, .int x1, .int x2, .int q4.1, .int 0, .int 0]) rfl ?_
        exact t_X10_admitAll_b54 hS ih 1000 h
theorem t_X10_admitAll {S : jS} (hS : jCok S) {d : Nat} {Q : Option Value → jx_H → Prop} {σ : jT} (h : jw (f_X10_admitAll σ) (fun q => Q (some (.int q.1)) (jh S q.2))) : jx_Sp (d + 2) 133 [.ref 0] (jh S σ) Q := by
  refine ⟨jm_i133, jm_at133, rfl, rfl, ?_⟩
  show jx_Ex _ jm_l133 jm_b133_0 [.ref 0, .retAddr 0, .retAddr 0, .retAddr 0, .retAddr 0, .retAddr 0] [] _ _
  unfold f_X10_admitAll at h
  refine xo_8 ?_
  refine xo_4 (ls' := [.ref 0, .int 0, .retAddr 0, .retAddr 0, .retAddr 0, .retAddr 0]) rfl ?_
  refine xo_2 rfl ?_
  refine xc_33 (i := 0) (q := 1) hS ly0 rfl (xc_P hS (by decide)) ?_
  refine xo_9 ?_
  refine xo_49 (st' := []) rfl rfl (xc_ly hS ly1) rfl (Nat.le_of_ble_eq_true rfl) ?_
  refine t_X9_open hS ?_
  refine jw_mono (jw_bind h) (fun q1 h => ?_)
  show jx_Ex _ _ _ _ [] (jh S q1.2) _
  refine xo_8 ?_
  refine xo_4 (ls' := [.ref 0, .int 0, .int 0, .retAddr 0, .retAddr 0, .retAddr 0]) rfl ?_
  exact t_X10_admitAll_b13 hS 1000 h
/-- OfDifferentMinds.riders, at ['x'] -/
def f_X10_riders_b50 (x1 : Int32) (s0 : Int32) (σ : jT) : Option (Int32 × jT) :=
  (f_X9_clear σ).bind fun q1 =>
  if ¬ x1 = (-1) then
    some (((-1) - x1), q1.2)
  else
    some (s0, q1.2)
def f_X10_riders (σ : jT) : Option (Int32 × jT) :=
  (f_X9_length σ).bind fun q1 =>
  if ¬ q1.1 = 0 then
    (f_X3_places q1.2).bind fun q3 =>
    (f_X3_riderCount q3.2).bind fun q4 =>
    (f_X1_inRiders_1 q3.1 (6 - q4.1) q4.2).bind fun q5 =>
    if ¬ q5.1 = (-1) then
      f_X10_riders_b50 q5.1 0 q5.2
    else
      (f_X10_admitAll q5.2).bind fun q7 =>
      f_X10_riders_b50 q5.1 q7.1 q7.2
  else
    some (0, q1.2)
theorem t_X10_riders_b50 {S : jS} (hS : jCok S) {d : Nat} {Q : Option Value → jx_H → Prop} {x1 : Int32} {s0 : Int32} {w2 : Value} {σ : jT} (h : jw (f_X10_riders_b50 x1 s0 σ) (fun q => Q (some (.int q.1)) (jh S q.2))) : jx_Ex (d + 4) jm_l132 jm_b132_50 [.ref 0, .int x1, w2] [.int s0] (jh S σ) Q := by
  unfold f_X10_riders_b50 at h
  refine xo_4 (ls' := [.ref 0, .int x1, .int s0]) rfl ?_
  refine xo_2 rfl ?_
  refine xc_33 (i := 0) (q := 1) hS ly0 rfl (xc_P hS (by decide)) ?_
  refine xo_49 (st' := []) rfl rfl (xc_ly hS ly1) rfl (Nat.le_of_ble_eq_true rfl) ?_
  refine t_X9_clear hS ?_
  refine jw_mono (jw_bind h) (fun q1 h => ?_)
  show jx_Ex _ _ _ _ [] (jh S q1.2) _
  refine xo_0 rfl ?_
  refine xo_8 ?_
  refine xo_62 (t := jm_b132_67) rfl (fun hc2 => ?_) (fun hc2 => ?_)
  · replace h := jw_pos hc2 h
    refine xo_8 ?_
    refine xo_0 rfl ?_
    refine xo_15 ?_
    replace h := jw_some h
    exact xo_69 h
  · replace h := jw_neg hc2 h
    refine xo_0 rfl ?_
    refine xo_54 (t := jm_b132_70) rfl ?_
    replace h := jw_some h
    exact xo_69 h
theorem t_X10_riders {S : jS} (hS : jCok S) {d : Nat} {Q : Option Value → jx_H → Prop} {σ : jT} (h : jw (f_X10_riders σ) (fun q => Q (some (.int q.1)) (jh S q.2))) : jx_Sp (d + 4) 132 [.ref 0] (jh S σ) Q := by
  refine ⟨jm_i132, jm_at132, rfl, rfl, ?_⟩
  show jx_Ex _ jm_l132 jm_b132_0 [.ref 0, .retAddr 0, .retAddr 0] [] _ _
  unfold f_X10_riders at h
  refine xo_2 rfl ?_
  refine xc_33 (i := 0) (q := 1) hS ly0 rfl (xc_P hS (by decide)) ?_
  refine xo_49 (st' := []) rfl rfl (xc_ly hS ly1) rfl (Nat.le_of_ble_eq_true rfl) ?_
  refine t_X9_length hS ?_
  refine jw_mono (jw_bind h) (fun q1 h => ?_)
  show jx_Ex _ _ _ _ [.int q1.1] (jh S q1.2) _
  refine xo_56 (t := jm_b132_12) rfl (fun hc2 => ?_) (fun hc2 => ?_)
  · replace h := jw_pos hc2 h
    refine xo_2 rfl ?_
    refine xc_33 (i := 0) (q := 1) hS ly0 rfl (xc_P hS (by decide)) ?_
    refine xo_2 rfl ?_
    refine xc_33 (i := 1) (q := 3) hS ly0 rfl (xc_P hS (by decide)) ?_
    refine xo_49 (st' := [.ref 1]) rfl rfl (xc_ly hS ly3) rfl (Nat.le_of_ble_eq_true rfl) ?_
    refine t_X3_places hS ?_
    refine jw_mono (jw_bind h) (fun q3 h => ?_)
    show jx_Ex _ _ _ _ [.int q3.1, .ref 1] (jh S q3.2) _
    refine xo_9 ?_
    refine xo_2 rfl ?_
    refine xc_33 (i := 1) (q := 3) hS ly0 rfl (xc_P hS (by decide)) ?_
    refine xo_49 (st' := [.int 6, .int q3.1, .ref 1]) rfl rfl (xc_ly hS ly3) rfl (Nat.le_of_ble_eq_true rfl) ?_
    refine t_X3_riderCount hS ?_
    refine jw_mono (jw_bind h) (fun q4 h => ?_)
    show jx_Ex _ _ _ _ [.int q4.1, .int 6, .int q3.1, .ref 1] (jh S q4.2) _
    refine xo_15 ?_
    refine xo_50 (st' := []) rfl rfl rfl (Nat.le_of_ble_eq_true rfl) ?_
    refine t_X1_inRiders_1 hS ?_
    refine jw_mono (jw_bind h) (fun q5 h => ?_)
    show jx_Ex _ _ _ _ [.int q5.1] (jh S q5.2) _
    refine xo_4 (ls' := [.ref 0, .int q5.1, .retAddr 0]) rfl ?_
    refine xo_0 rfl ?_
    refine xo_8 ?_
    refine xo_62 (t := jm_b132_49) rfl (fun hc6 => ?_) (fun hc6 => ?_)
    · replace h := jw_pos hc6 h
      refine xo_8 ?_
      exact t_X10_riders_b50 hS h
    · replace h := jw_neg hc6 h
      refine xo_2 rfl ?_
      refine xo_49 (st' := []) rfl rfl (xc_ly hS ly0) rfl (Nat.le_of_ble_eq_true rfl) ?_
      refine t_X10_admitAll hS ?_
      refine jw_mono (jw_bind h) (fun q7 h => ?_)
      show jx_Ex _ _ _ _ [.int q7.1] (jh S q7.2) _
      refine xo_54 (t := jm_b132_50) rfl ?_
      exact t_X10_riders_b50 hS h
  · replace h := jw_neg hc2 h
    refine xo_8 ?_
    replace h := jw_some h
    exact xo_69 h
/-- Rule.rankOf, at ['int'] -/
def f_X7_rankOf (x0 : Int32) (σ : jT) : Option (Int32 × jT) :=
  if x0 = 42 then
    some (2, σ)
  else
  if x0 = 43 then
    some (1, σ)
  else
  if x0 = 45 then
    some (1, σ)
  else
  if x0 = 47 then
    some (2, σ)
  else
  if x0 = 60 then
    some (0, σ)
  else
  if x0 = 61 then
    some (0, σ)
  else
  if x0 = 62 then
    some (0, σ)
  else
  some ((-1), σ)
theorem t_X7_rankOf {S : jS} (hS : jCok S) {d : Nat} {Q : Option Value → jx_H → Prop} {x0 : Int32} {σ : jT} (h : jw (f_X7_rankOf x0 σ) (fun q => Q (some (.int q.1)) (jh S q.2))) : jx_Sp (d) 82 [.int x0] (jh S σ) Q := by
  refine ⟨jm_i82, jm_at82, rfl, rfl, ?_⟩
  show jx_Ex _ jm_l82 jm_b82_0 [.int x0] [] _ _
  unfold f_X7_rankOf at h
  refine xo_0 rfl ?_
  refine xo_67 ?_
  refine xo_swc (tb := jm_b82_104) rfl (fun hc1 => ?_) (fun hc1 => ?_)
  · replace h := jw_pos hc1 h
    refine xo_8 ?_
    replace h := jw_some h
    exact xo_69 h
  replace h := jw_neg hc1 h
  refine xo_swc (tb := jm_b82_102) rfl (fun hc2 => ?_) (fun hc2 => ?_)
  · replace h := jw_pos hc2 h
    refine xo_8 ?_
    replace h := jw_some h
    exact xo_69 h
  replace h := jw_neg hc2 h
  refine xo_sws (by decide) ?_
  refine xo_swc (tb := jm_b82_102) rfl (fun hc3 => ?_) (fun hc3 => ?_)
  · replace h := jw_pos hc3 h
    refine xo_8 ?_
    replace h := jw_some h
    exact xo_69 h
  replace h := jw_neg hc3 h
  refine xo_sws (by decide) ?_
  refine xo_swc (tb := jm_b82_104) rfl (fun hc4 => ?_) (fun hc4 => ?_)
  · replace h := jw_pos hc4 h
    refine xo_8 ?_
    replace h := jw_some h
    exact xo_69 h
  replace h := jw_neg hc4 h
  refine xo_sws (by decide) ?_
  refine xo_sws (by decide) ?_
  refine xo_sws (by decide) ?_
  refine xo_sws (by decide) ?_
  refine xo_sws (by decide) ?_
  refine xo_sws (by decide) ?_
  refine xo_sws (by decide) ?_
  refine xo_sws (by decide) ?_
  refine xo_sws (by decide) ?_
  refine xo_sws (by decide) ?_
  refine xo_sws (by decide) ?_
  refine xo_sws (by decide) ?_
  refine xo_swc (tb := jm_b82_100) rfl (fun hc5 => ?_) (fun hc5 => ?_)
  · replace h := jw_pos hc5 h
    refine xo_8 ?_
    replace h := jw_some h
    exact xo_69 h
  replace h := jw_neg hc5 h
  refine xo_swc (tb := jm_b82_100) rfl (fun hc6 => ?_) (fun hc6 => ?_)
  · replace h := jw_pos hc6 h
    refine xo_8 ?_
    replace h := jw_some h
    exact xo_69 h
  replace h := jw_neg hc6 h
  refine xo_swc (tb := jm_b82_100) rfl (fun hc7 => ?_) (fun hc7 => ?_)
  · replace h := jw_pos hc7 h
    refine xo_8 ?_
    replace h := jw_some h
    exact xo_69 h
  replace h := jw_neg hc7 h
  refine xo_swn (tb := jm_b82_106) rfl ?_
  refine xo_8 ?_
  replace h := jw_some h
  exact xo_69 h
/-- Text.next, at ['x.text'] -/
def f_X9_next (σ : jT) : Option (Int32 × jT) :=
  (f_X9_peek σ).bind fun q1 =>
  if q1.1 = (-1) then
    some (q1.1, q1.2)
  else
    some (q1.1, (gs q1.2 67 ((q1.2.1 67) + 1)))
theorem t_X9_next {S : jS} (hS : jCok S) {d : Nat} {Q : Option Value → jx_H → Prop} {σ : jT} (h : jw (f_X9_next σ) (fun q => Q (some (.int q.1)) (jh S q.2))) : jx_Sp (d + 1) 123 [.ref 1] (jh S σ) Q := by
  refine ⟨jm_i123, jm_at123, rfl, rfl, ?_⟩
  show jx_Ex _ jm_l123 jm_b123_0 [.ref 1, .retAddr 0] [] _ _
  unfold f_X9_next at h
  refine xo_2 rfl ?_
  refine xo_49 (st' := []) rfl rfl (xc_ly hS ly1) rfl (Nat.le_of_ble_eq_true rfl) ?_
  refine t_X9_peek hS ?_
  refine jw_mono (jw_bind h) (fun q1 h => ?_)
  show jx_Ex _ _ _ _ [.int q1.1] (jh S q1.2) _
  refine xo_4 (ls' := [.ref 1, .int q1.1]) rfl ?_
  refine xo_0 rfl ?_
  refine xo_8 ?_
  refine xo_61 (t := jm_b123_20) rfl (fun hc2 => ?_) (fun hc2 => ?_)
  · replace h := jw_pos hc2 h
    refine xo_0 rfl ?_
    replace h := jw_some h
    exact xo_69 h
  · replace h := jw_neg hc2 h
    refine xo_2 rfl ?_
    refine xo_28r ?_
    refine xc_32 (i := 67) (v := (q1.2.1 67)) hS ly1 rfl ⟨Nat.le_of_ble_eq_true rfl, Nat.le_of_ble_eq_true rfl⟩ rfl ?_
    refine xo_8 ?_
    refine xo_14 ?_
    refine xc_34 (i := 67) hS ly1 rfl ⟨Nat.le_of_ble_eq_true rfl, Nat.le_of_ble_eq_true rfl⟩ ?_
    refine xo_0 rfl ?_
    replace h := jw_some h
    exact xo_69 h
/-- Rule.write, at ['x.rule', 'int'] -/
def f_X7_write (x1 : Int32) (σ : jT) : Option (Int32 × jT) :=
  if 40 ≤ (σ.1 453) then
    some (0, σ)
  else
    if jx_in (σ.1 453) 40 then
    some (0, (gs (gA σ 9 (σ.1 453).toNatClampNeg x1) 453 ((σ.1 453) + 1)))
    else none
theorem t_X7_write {S : jS} (hS : jCok S) {d : Nat} {Q : Option Value → jx_H → Prop} {x1 : Int32} {σ : jT} (h : jw (f_X7_write x1 σ) (fun q => Q none (jh S q.2))) : jx_Sp (d) 80 [.ref 7, .int x1] (jh S σ) Q := by
  refine ⟨jm_i80, jm_at80, rfl, rfl, ?_⟩
  show jx_Ex _ jm_l80 jm_b80_0 [.ref 7, .int x1] [] _ _
  unfold f_X7_write at h
  refine xo_2 rfl ?_
  refine xc_32 (i := 453) (v := (σ.1 453)) hS ly7 rfl ⟨Nat.le_of_ble_eq_true rfl, Nat.le_of_ble_eq_true rfl⟩ rfl ?_
  refine xo_9 ?_
  refine xo_64 (t := jm_b80_29) rfl (fun hc1 => ?_) (fun hc1 => ?_)
  · replace h := jw_pos hc1 h
    replace h := jw_some h
    exact xo_71 h
  · replace h := jw_neg hc1 h
    refine xo_2 rfl ?_
    refine xc_33 (i := 449) (q := 9) hS ly7 rfl (xc_P hS (by decide)) ?_
    refine xo_2 rfl ?_
    refine xc_32 (i := 453) (v := (σ.1 453)) hS ly7 rfl ⟨Nat.le_of_ble_eq_true rfl, Nat.le_of_ble_eq_true rfl⟩ rfl ?_
    refine xo_0 rfl ?_
    obtain ⟨hi2, h⟩ := jw_chk h
    refine xc_41 (j := (σ.1 453).toNatClampNeg) hS ly9 ⟨Nat.le_of_ble_eq_true rfl, Nat.le_of_ble_eq_true rfl⟩ hi2 rfl ?_
    refine xo_2 rfl ?_
    refine xo_28r ?_
    refine xc_32 (i := 453) (v := (σ.1 453)) hS ly7 rfl ⟨Nat.le_of_ble_eq_true rfl, Nat.le_of_ble_eq_true rfl⟩ rfl ?_
    refine xo_8 ?_
    refine xo_14 ?_
    refine xc_34 (i := 453) hS ly7 rfl ⟨Nat.le_of_ble_eq_true rfl, Nat.le_of_ble_eq_true rfl⟩ ?_
    replace h := jw_some h
    exact xo_71 h
/-- Rule.takeJoined, at ['x.rule', 'x.text', 'int', 'int'] -/
def f_X7_takeJoined_1_b38 (rec : Nat → List Int32 → jT → Option (Int32 × jT)) : Nat → Int32 → Int32 → Int32 → Int32 → Int32 → jT → Option (Int32 × jT)
  | 0, _, _, _, _, _, _ => none
  | n + 1, x2, x3, x4, x5, x6, σ =>
    if x5 ≤ x6 then
      if x4 = 0 ∨ x4 = 1 then
      some (x4, σ)
      else none
    else
      if x4 = 0 then
        if x4 = 0 ∨ x4 = 1 then
        some (x4, σ)
        else none
      else
        (f_X9_peek σ).bind fun q5 =>
        (f_X7_rankOf q5.1 q5.2).bind fun q6 =>
        if ¬ q6.1 = x2 then
          if x4 = 0 ∨ x4 = 1 then
          some (x4, q6.2)
          else none
        else
          (f_X9_next q6.2).bind fun q9 =>
          (rec 0 [(x2 + 1), x3] q9.2).bind fun q10 =>
          (f_X7_write (3000 + q9.1) q10.2).bind fun q11 =>
          f_X7_takeJoined_1_b38 rec n x2 x3 q10.1 x5 (x6 + 1) q11.2
def f_X7_takeJoined_1_b33 (rec : Nat → List Int32 → jT → Option (Int32 × jT)) (x2 : Int32) (x3 : Int32) (x4 : Int32) (s0 : Int32) (σ : jT) : Option (Int32 × jT) :=
  f_X7_takeJoined_1_b38 rec 1000 x2 x3 x4 s0 0 σ
def f_X7_takeJoined_1 (rec : Nat → List Int32 → jT → Option (Int32 × jT)) (x2 : Int32) (x3 : Int32) (σ : jT) : Option (Int32 × jT) :=
  if x2 ≤ 2 then
    (rec 0 [(x2 + 1), x3] σ).bind fun q2 =>
    if ¬ x2 = 0 then
      f_X7_takeJoined_1_b33 rec x2 x3 q2.1 40 q2.2
    else
      f_X7_takeJoined_1_b33 rec x2 x3 q2.1 1 q2.2
  else
    (rec 1 [x3] σ).bind fun q4 =>
    if q4.1 = 0 ∨ q4.1 = 1 then
    some (q4.1, q4.2)
    else none
theorem t_X7_takeJoined_1_b38 {S : jS} (hS : jCok S) {d : Nat} {Q : Option Value → jx_H → Prop} {rec : Nat → List Int32 → jT → Option (Int32 × jT)} (hrec_X7_takeJoined_1 : ∀ {x2 : Int32} {x3 : Int32} {σ : jT} {Q : Option Value → jx_H → Prop}, jw (rec 0 [x2, x3] σ) (fun q => Q (some (.int q.1)) (jh S q.2)) → jx_Sp (d + 2) 81 [.ref 7, .ref 1, .int x2, .int x3] (jh S σ) Q) (hrec_X7_takeSigned_1 : ∀ {x2 : Int32} {σ : jT} {Q : Option Value → jx_H → Prop}, jw (rec 1 [x2] σ) (fun q => Q (some (.int q.1)) (jh S q.2)) → jx_Sp (d + 2) 83 [.ref 7, .ref 1, .int x2] (jh S σ) Q) : ∀ (n : Nat) {x2 : Int32} {x3 : Int32} {x4 : Int32} {x5 : Int32} {x6 : Int32} {w7 : Value} {σ : jT}, jw (f_X7_takeJoined_1_b38 rec n x2 x3 x4 x5 x6 σ) (fun q => Q (some (.int q.1)) (jh S q.2)) → jx_Ex (d + 3) jm_l81 jm_b81_38 [.ref 7, .ref 1, .int x2, .int x3, .int x4, .int x5, .int x6, w7] [] (jh S σ) Q := by
  intro n
  induction n with
  | zero => intro x2 x3 x4 x5 x6 w7 σ h; exact jw_none h
  | succ n ih =>
    intro x2 x3 x4 x5 x6 w7 σ h
    rw [f_X7_takeJoined_1_b38] at h
    refine xo_1 rfl ?_
    refine xo_1 rfl ?_
    refine xo_64 (t := jm_b81_94) rfl (fun hc1 => ?_) (fun hc1 => ?_)
    · replace h := jw_pos hc1 h
      refine xo_1 rfl ?_
      obtain ⟨hz2, h⟩ := jw_chk h
      replace h := jw_some h
      exact xo_70 hz2 h
    · replace h := jw_neg hc1 h
      refine xo_1 rfl ?_
      refine xo_55 (t := jm_b81_94) rfl (fun hc3 => ?_) (fun hc3 => ?_)
      · replace h := jw_pos hc3 h
        refine xo_1 rfl ?_
        obtain ⟨hz4, h⟩ := jw_chk h
        replace h := jw_some h
        exact xo_70 hz4 h
      · replace h := jw_neg hc3 h
        refine xo_2 rfl ?_
        refine xo_49 (st' := []) rfl rfl (xc_ly hS ly1) rfl (Nat.le_of_ble_eq_true rfl) ?_
        refine t_X9_peek hS ?_
        refine jw_mono (jw_bind h) (fun q5 h => ?_)
        show jx_Ex _ _ _ _ [.int q5.1] (jh S q5.2) _
        refine xo_50 (st' := []) rfl rfl rfl (Nat.le_of_ble_eq_true rfl) ?_
        refine t_X7_rankOf hS ?_
        refine jw_mono (jw_bind h) (fun q6 h => ?_)
        show jx_Ex _ _ _ _ [.int q6.1] (jh S q6.2) _
        refine xo_0 rfl ?_
        refine xo_62 (t := jm_b81_94) rfl (fun hc7 => ?_) (fun hc7 => ?_)
        · replace h := jw_pos hc7 h
          refine xo_1 rfl ?_
          obtain ⟨hz8, h⟩ := jw_chk h
          replace h := jw_some h
          exact xo_70 hz8 h
        · replace h := jw_neg hc7 h
          refine xo_2 rfl ?_
          refine xo_49 (st' := []) rfl rfl (xc_ly hS ly1) rfl (Nat.le_of_ble_eq_true rfl) ?_
          refine t_X9_next hS ?_
          refine jw_mono (jw_bind h) (fun q9 h => ?_)
          show jx_Ex _ _ _ _ [.int q9.1] (jh S q9.2) _
          refine xo_5 (ls' := [.ref 7, .ref 1, .int x2, .int x3, .int x4, .int x5, .int x6, .int q9.1]) rfl ?_
          refine xo_2 rfl ?_
          refine xo_2 rfl ?_
          refine xo_0 rfl ?_
          refine xo_8 ?_
          refine xo_14 ?_
          refine xo_0 rfl ?_
          refine xo_49 (st' := []) rfl rfl (xc_ly hS ly7) rfl (Nat.le_of_ble_eq_true rfl) ?_
          refine hrec_X7_takeJoined_1 ?_
          refine jw_mono (jw_bind h) (fun q10 h => ?_)
          show jx_Ex _ _ _ _ [.int q10.1] (jh S q10.2) _
          refine xo_5 (ls' := [.ref 7, .ref 1, .int x2, .int x3, .int q10.1, .int x5, .int x6, .int q9.1]) rfl ?_
          refine xo_2 rfl ?_
          refine xo_10 ?_
          refine xo_1 rfl ?_
          refine xo_14 ?_
          refine xo_49 (st' := []) rfl rfl (xc_ly hS ly7) rfl (Nat.le_of_ble_eq_true rfl) ?_
          refine t_X7_write hS ?_
          refine jw_mono (jw_bind h) (fun q11 h => ?_)
          show jx_Ex _ _ _ _ [] (jh S q11.2) _
          refine xo_13 (ls' := [.ref 7, .ref 1, .int x2, .int x3, .int q10.1, .int x5, .int (x6 + 1), .int q9.1]) rfl rfl ?_
          refine xo_54 (t := jm_b81_38) rfl ?_
          exact ih h
theorem t_X7_takeJoined_1_b33 {S : jS} (hS : jCok S) {d : Nat} {Q : Option Value → jx_H → Prop} {rec : Nat → List Int32 → jT → Option (Int32 × jT)} (hrec_X7_takeJoined_1 : ∀ {x2 : Int32} {x3 : Int32} {σ : jT} {Q : Option Value → jx_H → Prop}, jw (rec 0 [x2, x3] σ) (fun q => Q (some (.int q.1)) (jh S q.2)) → jx_Sp (d + 2) 81 [.ref 7, .ref 1, .int x2, .int x3] (jh S σ) Q) (hrec_X7_takeSigned_1 : ∀ {x2 : Int32} {σ : jT} {Q : Option Value → jx_H → Prop}, jw (rec 1 [x2] σ) (fun q => Q (some (.int q.1)) (jh S q.2)) → jx_Sp (d + 2) 83 [.ref 7, .ref 1, .int x2] (jh S σ) Q) {x2 : Int32} {x3 : Int32} {x4 : Int32} {s0 : Int32} {w5 : Value} {w6 : Value} {w7 : Value} {σ : jT} (h : jw (f_X7_takeJoined_1_b33 rec x2 x3 x4 s0 σ) (fun q => Q (some (.int q.1)) (jh S q.2))) : jx_Ex (d + 3) jm_l81 jm_b81_33 [.ref 7, .ref 1, .int x2, .int x3, .int x4, w5, w6, w7] [.int s0] (jh S σ) Q := by
  unfold f_X7_takeJoined_1_b33 at h
  refine xo_5 (ls' := [.ref 7, .ref 1, .int x2, .int x3, .int x4, .int s0, w6, w7]) rfl ?_
  refine xo_8 ?_
  refine xo_5 (ls' := [.ref 7, .ref 1, .int x2, .int x3, .int x4, .int s0, .int 0, w7]) rfl ?_
  exact t_X7_takeJoined_1_b38 hS hrec_X7_takeJoined_1 hrec_X7_takeSigned_1 1000 h
theorem t_X7_takeJoined_1 {S : jS} (hS : jCok S) {d : Nat} {Q : Option Value → jx_H → Prop} {rec : Nat → List Int32 → jT → Option (Int32 × jT)} (hrec_X7_takeJoined_1 : ∀ {x2 : Int32} {x3 : Int32} {σ : jT} {Q : Option Value → jx_H → Prop}, jw (rec 0 [x2, x3] σ) (fun q => Q (some (.int q.1)) (jh S q.2)) → jx_Sp (d + 2) 81 [.ref 7, .ref 1, .int x2, .int x3] (jh S σ) Q) (hrec_X7_takeSigned_1 : ∀ {x2 : Int32} {σ : jT} {Q : Option Value → jx_H → Prop}, jw (rec 1 [x2] σ) (fun q => Q (some (.int q.1)) (jh S q.2)) → jx_Sp (d + 2) 83 [.ref 7, .ref 1, .int x2] (jh S σ) Q) {x2 : Int32} {x3 : Int32} {σ : jT} (h : jw (f_X7_takeJoined_1 rec x2 x3 σ) (fun q => Q (some (.int q.1)) (jh S q.2))) : jx_Sp (d + 3) 81 [.ref 7, .ref 1, .int x2, .int x3] (jh S σ) Q := by
  refine ⟨jm_i81, jm_at81, rfl, rfl, ?_⟩
  show jx_Ex _ jm_l81 jm_b81_0 [.ref 7, .ref 1, .int x2, .int x3, .retAddr 0, .retAddr 0, .retAddr 0, .retAddr 0] [] _ _
  unfold f_X7_takeJoined_1 at h
  refine xo_0 rfl ?_
  refine xo_8 ?_
  refine xo_66 (t := jm_b81_12) rfl (fun hc1 => ?_) (fun hc1 => ?_)
  · replace h := jw_pos hc1 h
    refine xo_2 rfl ?_
    refine xo_2 rfl ?_
    refine xo_0 rfl ?_
    refine xo_8 ?_
    refine xo_14 ?_
    refine xo_0 rfl ?_
    refine xo_49 (st' := []) rfl rfl (xc_ly hS ly7) rfl (Nat.le_of_ble_eq_true rfl) ?_
    refine hrec_X7_takeJoined_1 ?_
    refine jw_mono (jw_bind h) (fun q2 h => ?_)
    show jx_Ex _ _ _ _ [.int q2.1] (jh S q2.2) _
    refine xo_5 (ls' := [.ref 7, .ref 1, .int x2, .int x3, .int q2.1, .retAddr 0, .retAddr 0, .retAddr 0]) rfl ?_
    refine xo_0 rfl ?_
    refine xo_56 (t := jm_b81_31) rfl (fun hc3 => ?_) (fun hc3 => ?_)
    · replace h := jw_pos hc3 h
      refine xo_9 ?_
      exact t_X7_takeJoined_1_b33 hS hrec_X7_takeJoined_1 hrec_X7_takeSigned_1 h
    · replace h := jw_neg hc3 h
      refine xo_8 ?_
      refine xo_54 (t := jm_b81_33) rfl ?_
      exact t_X7_takeJoined_1_b33 hS hrec_X7_takeJoined_1 hrec_X7_takeSigned_1 h
  · replace h := jw_neg hc1 h
    refine xo_2 rfl ?_
    refine xo_2 rfl ?_
    refine xo_0 rfl ?_
    refine xo_49 (st' := []) rfl rfl (xc_ly hS ly7) rfl (Nat.le_of_ble_eq_true rfl) ?_
    refine hrec_X7_takeSigned_1 ?_
    refine jw_mono (jw_bind h) (fun q4 h => ?_)
    show jx_Ex _ _ _ _ [.int q4.1] (jh S q4.2) _
    obtain ⟨hz5, h⟩ := jw_chk h
    replace h := jw_some h
    exact xo_70 hz5 h
/-- Rule.thingOf, at ['int'] -/
def f_X7_thingOf (x0 : Int32) (σ : jT) : Option (Int32 × jT) :=
  if x0 = 97 then
    some (0, σ)
  else
  if x0 = 98 then
    some (1, σ)
  else
  if x0 = 107 then
    some (2, σ)
  else
  if x0 = 109 then
    some (5, σ)
  else
  if x0 = 110 then
    some (6, σ)
  else
  if x0 = 112 then
    some (3, σ)
  else
  if x0 = 115 then
    some (4, σ)
  else
  some ((-1), σ)
theorem t_X7_thingOf {S : jS} (hS : jCok S) {d : Nat} {Q : Option Value → jx_H → Prop} {x0 : Int32} {σ : jT} (h : jw (f_X7_thingOf x0 σ) (fun q => Q (some (.int q.1)) (jh S q.2))) : jx_Sp (d) 86 [.int x0] (jh S σ) Q := by
  refine ⟨jm_i86, jm_at86, rfl, rfl, ?_⟩
  show jx_Ex _ jm_l86 jm_b86_0 [.int x0] [] _ _
  unfold f_X7_thingOf at h
  refine xo_0 rfl ?_
  refine xo_67 ?_
  refine xo_swc (tb := jm_b86_92) rfl (fun hc1 => ?_) (fun hc1 => ?_)
  · replace h := jw_pos hc1 h
    refine xo_8 ?_
    replace h := jw_some h
    exact xo_69 h
  replace h := jw_neg hc1 h
  refine xo_swc (tb := jm_b86_94) rfl (fun hc2 => ?_) (fun hc2 => ?_)
  · replace h := jw_pos hc2 h
    refine xo_8 ?_
    replace h := jw_some h
    exact xo_69 h
  replace h := jw_neg hc2 h
  refine xo_sws (by decide) ?_
  refine xo_sws (by decide) ?_
  refine xo_sws (by decide) ?_
  refine xo_sws (by decide) ?_
  refine xo_sws (by decide) ?_
  refine xo_sws (by decide) ?_
  refine xo_sws (by decide) ?_
  refine xo_sws (by decide) ?_
  refine xo_swc (tb := jm_b86_96) rfl (fun hc3 => ?_) (fun hc3 => ?_)
  · replace h := jw_pos hc3 h
    refine xo_8 ?_
    replace h := jw_some h
    exact xo_69 h
  replace h := jw_neg hc3 h
  refine xo_sws (by decide) ?_
  refine xo_swc (tb := jm_b86_102) rfl (fun hc4 => ?_) (fun hc4 => ?_)
  · replace h := jw_pos hc4 h
    refine xo_8 ?_
    replace h := jw_some h
    exact xo_69 h
  replace h := jw_neg hc4 h
  refine xo_swc (tb := jm_b86_104) rfl (fun hc5 => ?_) (fun hc5 => ?_)
  · replace h := jw_pos hc5 h
    refine xo_9 ?_
    replace h := jw_some h
    exact xo_69 h
  replace h := jw_neg hc5 h
  refine xo_sws (by decide) ?_
  refine xo_swc (tb := jm_b86_98) rfl (fun hc6 => ?_) (fun hc6 => ?_)
  · replace h := jw_pos hc6 h
    refine xo_8 ?_
    replace h := jw_some h
    exact xo_69 h
  replace h := jw_neg hc6 h
  refine xo_sws (by decide) ?_
  refine xo_sws (by decide) ?_
  refine xo_swc (tb := jm_b86_100) rfl (fun hc7 => ?_) (fun hc7 => ?_)
  · replace h := jw_pos hc7 h
    refine xo_8 ?_
    replace h := jw_some h
    exact xo_69 h
  replace h := jw_neg hc7 h
  refine xo_swn (tb := jm_b86_107) rfl ?_
  refine xo_8 ?_
  replace h := jw_some h
  exact xo_69 h
/-- Rule.takeThing, at ['x.rule', 'x.text'] -/
def f_X7_takeThing_1 (σ : jT) : Option (Int32 × jT) :=
  (f_X9_number 3 σ).bind fun q1 =>
  if q1.1 = (-1) then
    (f_X9_peek q1.2).bind fun q3 =>
    (f_X7_thingOf q3.1 q3.2).bind fun q4 =>
    if ¬ q4.1 = (-1) then
      (f_X9_next q4.2).bind fun q6 =>
      (f_X7_write (1000 + q4.1) q6.2).bind fun q7 =>
      some (1, q7.2)
    else
      some (0, q4.2)
  else
    (f_X7_write q1.1 q1.2).bind fun q8 =>
    some (1, q8.2)
theorem t_X7_takeThing_1 {S : jS} (hS : jCok S) {d : Nat} {Q : Option Value → jx_H → Prop} {σ : jT} (h : jw (f_X7_takeThing_1 σ) (fun q => Q (some (.int q.1)) (jh S q.2))) : jx_Sp (d + 2) 85 [.ref 7, .ref 1] (jh S σ) Q := by
  refine ⟨jm_i85, jm_at85, rfl, rfl, ?_⟩
  show jx_Ex _ jm_l85 jm_b85_0 [.ref 7, .ref 1, .retAddr 0, .retAddr 0] [] _ _
  unfold f_X7_takeThing_1 at h
  refine xo_2 rfl ?_
  refine xo_8 ?_
  refine xo_49 (st' := []) rfl rfl (xc_ly hS ly1) rfl (Nat.le_of_ble_eq_true rfl) ?_
  refine t_X9_number hS ?_
  refine jw_mono (jw_bind h) (fun q1 h => ?_)
  show jx_Ex _ _ _ _ [.int q1.1] (jh S q1.2) _
  refine xo_4 (ls' := [.ref 7, .ref 1, .int q1.1, .retAddr 0]) rfl ?_
  refine xo_0 rfl ?_
  refine xo_8 ?_
  refine xo_61 (t := jm_b85_18) rfl (fun hc2 => ?_) (fun hc2 => ?_)
  · replace h := jw_pos hc2 h
    refine xo_2 rfl ?_
    refine xo_49 (st' := []) rfl rfl (xc_ly hS ly1) rfl (Nat.le_of_ble_eq_true rfl) ?_
    refine t_X9_peek hS ?_
    refine jw_mono (jw_bind h) (fun q3 h => ?_)
    show jx_Ex _ _ _ _ [.int q3.1] (jh S q3.2) _
    refine xo_50 (st' := []) rfl rfl rfl (Nat.le_of_ble_eq_true rfl) ?_
    refine t_X7_thingOf hS ?_
    refine jw_mono (jw_bind h) (fun q4 h => ?_)
    show jx_Ex _ _ _ _ [.int q4.1] (jh S q4.2) _
    refine xo_4 (ls' := [.ref 7, .ref 1, .int q1.1, .int q4.1]) rfl ?_
    refine xo_0 rfl ?_
    refine xo_8 ?_
    refine xo_62 (t := jm_b85_33) rfl (fun hc5 => ?_) (fun hc5 => ?_)
    · replace h := jw_pos hc5 h
      refine xo_2 rfl ?_
      refine xo_49 (st' := []) rfl rfl (xc_ly hS ly1) rfl (Nat.le_of_ble_eq_true rfl) ?_
      refine t_X9_next hS ?_
      refine jw_mono (jw_bind h) (fun q6 h => ?_)
      show jx_Ex _ _ _ _ [.int q6.1] (jh S q6.2) _
      refine xo_31 ?_
      refine xo_2 rfl ?_
      refine xo_10 ?_
      refine xo_0 rfl ?_
      refine xo_14 ?_
      refine xo_49 (st' := []) rfl rfl (xc_ly hS ly7) rfl (Nat.le_of_ble_eq_true rfl) ?_
      refine t_X7_write hS ?_
      refine jw_mono (jw_bind h) (fun q7 h => ?_)
      show jx_Ex _ _ _ _ [] (jh S q7.2) _
      refine xo_8 ?_
      replace h := jw_some h
      exact xo_70 (by decide) h
    · replace h := jw_neg hc5 h
      refine xo_8 ?_
      replace h := jw_some h
      exact xo_70 (by decide) h
  · replace h := jw_neg hc2 h
    refine xo_2 rfl ?_
    refine xo_0 rfl ?_
    refine xo_49 (st' := []) rfl rfl (xc_ly hS ly7) rfl (Nat.le_of_ble_eq_true rfl) ?_
    refine t_X7_write hS ?_
    refine jw_mono (jw_bind h) (fun q8 h => ?_)
    show jx_Ex _ _ _ _ [] (jh S q8.2) _
    refine xo_8 ?_
    replace h := jw_some h
    exact xo_70 (by decide) h
/-- Rule.takeSigned, at ['x.rule', 'x.text', 'int'] -/
def f_X7_takeSigned_1_b60 (rec : Nat → List Int32 → jT → Option (Int32 × jT)) (x3 : Int32) (s0 : Int32) (σ : jT) : Option (Int32 × jT) :=
  if x3 = 0 then
    if s0 = 0 ∨ s0 = 1 then
    some (s0, σ)
    else none
  else
    (f_X7_write 2000 σ).bind fun q3 =>
    if s0 = 0 ∨ s0 = 1 then
    some (s0, q3.2)
    else none
def f_X7_takeSigned_1_b37 (rec : Nat → List Int32 → jT → Option (Int32 × jT)) (x2 : Int32) (x3 : Int32) (σ : jT) : Option (Int32 × jT) :=
  (f_X9_peek σ).bind fun q1 =>
  if ¬ q1.1 = 40 then
    (f_X7_takeThing_1 q1.2).bind fun q3 =>
    f_X7_takeSigned_1_b60 rec x3 q3.1 q3.2
  else
    (rec 2 [x2] q1.2).bind fun q4 =>
    f_X7_takeSigned_1_b60 rec x3 q4.1 q4.2
def f_X7_takeSigned_1_b30 (rec : Nat → List Int32 → jT → Option (Int32 × jT)) (k5 : Int32 → Int32 → Int32 → jT → Option (Int32 × jT)) (x2 : Int32) (x4 : Int32) (s0 : Int32) (σ : jT) : Option (Int32 × jT) :=
  k5 x2 s0 (x4 + 1) σ
def f_X7_takeSigned_1_b5 (rec : Nat → List Int32 → jT → Option (Int32 × jT)) : Nat → Int32 → Int32 → Int32 → jT → Option (Int32 × jT)
  | 0, _, _, _, _ => none
  | n + 1, x2, x3, x4, σ =>
    if 40 ≤ x4 then
      f_X7_takeSigned_1_b37 rec x2 x3 σ
    else
      (f_X9_take 45 σ).bind fun q2 =>
      if q2.1 = 0 then
        f_X7_takeSigned_1_b37 rec x2 x3 q2.2
      else
        if ¬ x3 = 0 then
          f_X7_takeSigned_1_b30 rec (f_X7_takeSigned_1_b5 rec n) x2 x4 0 q2.2
        else
          f_X7_takeSigned_1_b30 rec (f_X7_takeSigned_1_b5 rec n) x2 x4 1 q2.2
def f_X7_takeSigned_1 (rec : Nat → List Int32 → jT → Option (Int32 × jT)) (x2 : Int32) (σ : jT) : Option (Int32 × jT) :=
  f_X7_takeSigned_1_b5 rec 1000 x2 0 0 σ
theorem t_X7_takeSigned_1_b60 {S : jS} (hS : jCok S) {d : Nat} {Q : Option Value → jx_H → Prop} {rec : Nat → List Int32 → jT → Option (Int32 × jT)} (hrec_X7_takeInner_1 : ∀ {x2 : Int32} {σ : jT} {Q : Option Value → jx_H → Prop}, jw (rec 2 [x2] σ) (fun q => Q (some (.int q.1)) (jh S q.2)) → jx_Sp (d + 2) 84 [.ref 7, .ref 1, .int x2] (jh S σ) Q) {x3 : Int32} {s0 : Int32} {w1 : Value} {w2 : Value} {w4 : Value} {σ : jT} (h : jw (f_X7_takeSigned_1_b60 rec x3 s0 σ) (fun q => Q (some (.int q.1)) (jh S q.2))) : jx_Ex (d + 3) jm_l83 jm_b83_60 [.ref 7, w1, w2, .int x3, w4] [.int s0] (jh S σ) Q := by
  unfold f_X7_takeSigned_1_b60 at h
  refine xo_5 (ls' := [.ref 7, w1, w2, .int x3, .int s0]) rfl ?_
  refine xo_0 rfl ?_
  refine xo_55 (t := jm_b83_73) rfl (fun hc1 => ?_) (fun hc1 => ?_)
  · replace h := jw_pos hc1 h
    refine xo_1 rfl ?_
    obtain ⟨hz2, h⟩ := jw_chk h
    replace h := jw_some h
    exact xo_70 hz2 h
  · replace h := jw_neg hc1 h
    refine xo_2 rfl ?_
    refine xo_10 ?_
    refine xo_49 (st' := []) rfl rfl (xc_ly hS ly7) rfl (Nat.le_of_ble_eq_true rfl) ?_
    refine t_X7_write hS ?_
    refine jw_mono (jw_bind h) (fun q3 h => ?_)
    show jx_Ex _ _ _ _ [] (jh S q3.2) _
    refine xo_1 rfl ?_
    obtain ⟨hz4, h⟩ := jw_chk h
    replace h := jw_some h
    exact xo_70 hz4 h
theorem t_X7_takeSigned_1_b37 {S : jS} (hS : jCok S) {d : Nat} {Q : Option Value → jx_H → Prop} {rec : Nat → List Int32 → jT → Option (Int32 × jT)} (hrec_X7_takeInner_1 : ∀ {x2 : Int32} {σ : jT} {Q : Option Value → jx_H → Prop}, jw (rec 2 [x2] σ) (fun q => Q (some (.int q.1)) (jh S q.2)) → jx_Sp (d + 2) 84 [.ref 7, .ref 1, .int x2] (jh S σ) Q) {x2 : Int32} {x3 : Int32} {w4 : Value} {σ : jT} (h : jw (f_X7_takeSigned_1_b37 rec x2 x3 σ) (fun q => Q (some (.int q.1)) (jh S q.2))) : jx_Ex (d + 3) jm_l83 jm_b83_37 [.ref 7, .ref 1, .int x2, .int x3, w4] [] (jh S σ) Q := by
  unfold f_X7_takeSigned_1_b37 at h
  refine xo_2 rfl ?_
  refine xo_49 (st' := []) rfl rfl (xc_ly hS ly1) rfl (Nat.le_of_ble_eq_true rfl) ?_
  refine t_X9_peek hS ?_
  refine jw_mono (jw_bind h) (fun q1 h => ?_)
  show jx_Ex _ _ _ _ [.int q1.1] (jh S q1.2) _
  refine xo_9 ?_
  refine xo_62 (t := jm_b83_55) rfl (fun hc2 => ?_) (fun hc2 => ?_)
  · replace h := jw_pos hc2 h
    refine xo_2 rfl ?_
    refine xo_2 rfl ?_
    refine xo_49 (st' := []) rfl rfl (xc_ly hS ly7) rfl (Nat.le_of_ble_eq_true rfl) ?_
    refine t_X7_takeThing_1 hS ?_
    refine jw_mono (jw_bind h) (fun q3 h => ?_)
    show jx_Ex _ _ _ _ [.int q3.1] (jh S q3.2) _
    exact t_X7_takeSigned_1_b60 hS hrec_X7_takeInner_1 h
  · replace h := jw_neg hc2 h
    refine xo_2 rfl ?_
    refine xo_2 rfl ?_
    refine xo_0 rfl ?_
    refine xo_49 (st' := []) rfl rfl (xc_ly hS ly7) rfl (Nat.le_of_ble_eq_true rfl) ?_
    refine hrec_X7_takeInner_1 ?_
    refine jw_mono (jw_bind h) (fun q4 h => ?_)
    show jx_Ex _ _ _ _ [.int q4.1] (jh S q4.2) _
    refine xo_54 (t := jm_b83_60) rfl ?_
    exact t_X7_takeSigned_1_b60 hS hrec_X7_takeInner_1 h
theorem t_X7_takeSigned_1_b30 {S : jS} (hS : jCok S) {d : Nat} {Q : Option Value → jx_H → Prop} {rec : Nat → List Int32 → jT → Option (Int32 × jT)} (hrec_X7_takeInner_1 : ∀ {x2 : Int32} {σ : jT} {Q : Option Value → jx_H → Prop}, jw (rec 2 [x2] σ) (fun q => Q (some (.int q.1)) (jh S q.2)) → jx_Sp (d + 2) 84 [.ref 7, .ref 1, .int x2] (jh S σ) Q) {k5 : Int32 → Int32 → Int32 → jT → Option (Int32 × jT)} (hk5 : ∀ {x2 : Int32} {x3 : Int32} {x4 : Int32} {σ : jT}, jw (k5 x2 x3 x4 σ) (fun q => Q (some (.int q.1)) (jh S q.2)) → jx_Ex (d + 3) jm_l83 jm_b83_5 [.ref 7, .ref 1, .int x2, .int x3, .int x4] [] (jh S σ) Q) {x2 : Int32} {x4 : Int32} {s0 : Int32} {w3 : Value} {σ : jT} (h : jw (f_X7_takeSigned_1_b30 rec k5 x2 x4 s0 σ) (fun q => Q (some (.int q.1)) (jh S q.2))) : jx_Ex (d + 3) jm_l83 jm_b83_30 [.ref 7, .ref 1, .int x2, w3, .int x4] [.int s0] (jh S σ) Q := by
  unfold f_X7_takeSigned_1_b30 at h
  refine xo_4 (ls' := [.ref 7, .ref 1, .int x2, .int s0, .int x4]) rfl ?_
  refine xo_13 (ls' := [.ref 7, .ref 1, .int x2, .int s0, .int (x4 + 1)]) rfl rfl ?_
  refine xo_54 (t := jm_b83_5) rfl ?_
  exact hk5 h
theorem t_X7_takeSigned_1_b5 {S : jS} (hS : jCok S) {d : Nat} {Q : Option Value → jx_H → Prop} {rec : Nat → List Int32 → jT → Option (Int32 × jT)} (hrec_X7_takeInner_1 : ∀ {x2 : Int32} {σ : jT} {Q : Option Value → jx_H → Prop}, jw (rec 2 [x2] σ) (fun q => Q (some (.int q.1)) (jh S q.2)) → jx_Sp (d + 2) 84 [.ref 7, .ref 1, .int x2] (jh S σ) Q) : ∀ (n : Nat) {x2 : Int32} {x3 : Int32} {x4 : Int32} {σ : jT}, jw (f_X7_takeSigned_1_b5 rec n x2 x3 x4 σ) (fun q => Q (some (.int q.1)) (jh S q.2)) → jx_Ex (d + 3) jm_l83 jm_b83_5 [.ref 7, .ref 1, .int x2, .int x3, .int x4] [] (jh S σ) Q := by
  intro n
  induction n with
  | zero => intro x2 x3 x4 σ h; exact jw_none h
  | succ n ih =>
    intro x2 x3 x4 σ h
    rw [f_X7_takeSigned_1_b5] at h
    refine xo_1 rfl ?_
    refine xo_9 ?_
    refine xo_64 (t := jm_b83_37) rfl (fun hc1 => ?_) (fun hc1 => ?_)
    · replace h := jw_pos hc1 h
      exact t_X7_takeSigned_1_b37 hS hrec_X7_takeInner_1 h
    · replace h := jw_neg hc1 h
      refine xo_2 rfl ?_
      refine xo_9 ?_
      refine xo_49 (st' := []) rfl rfl (xc_ly hS ly1) rfl (Nat.le_of_ble_eq_true rfl) ?_
      refine t_X9_take hS ?_
      refine jw_mono (jw_bind h) (fun q2 h => ?_)
      show jx_Ex _ _ _ _ [.int q2.1] (jh S q2.2) _
      refine xo_55 (t := jm_b83_37) rfl (fun hc3 => ?_) (fun hc3 => ?_)
      · replace h := jw_pos hc3 h
        exact t_X7_takeSigned_1_b37 hS hrec_X7_takeInner_1 h
      · replace h := jw_neg hc3 h
        refine xo_0 rfl ?_
        refine xo_56 (t := jm_b83_29) rfl (fun hc4 => ?_) (fun hc4 => ?_)
        · replace h := jw_pos hc4 h
          refine xo_8 ?_
          exact t_X7_takeSigned_1_b30 hS hrec_X7_takeInner_1 ih h
        · replace h := jw_neg hc4 h
          refine xo_8 ?_
          refine xo_54 (t := jm_b83_30) rfl ?_
          exact t_X7_takeSigned_1_b30 hS hrec_X7_takeInner_1 ih h
theorem t_X7_takeSigned_1 {S : jS} (hS : jCok S) {d : Nat} {Q : Option Value → jx_H → Prop} {rec : Nat → List Int32 → jT → Option (Int32 × jT)} (hrec_X7_takeInner_1 : ∀ {x2 : Int32} {σ : jT} {Q : Option Value → jx_H → Prop}, jw (rec 2 [x2] σ) (fun q => Q (some (.int q.1)) (jh S q.2)) → jx_Sp (d + 2) 84 [.ref 7, .ref 1, .int x2] (jh S σ) Q) {x2 : Int32} {σ : jT} (h : jw (f_X7_takeSigned_1 rec x2 σ) (fun q => Q (some (.int q.1)) (jh S q.2))) : jx_Sp (d + 3) 83 [.ref 7, .ref 1, .int x2] (jh S σ) Q := by
  refine ⟨jm_i83, jm_at83, rfl, rfl, ?_⟩
  show jx_Ex _ jm_l83 jm_b83_0 [.ref 7, .ref 1, .int x2, .retAddr 0, .retAddr 0] [] _ _
  unfold f_X7_takeSigned_1 at h
  refine xo_8 ?_
  refine xo_4 (ls' := [.ref 7, .ref 1, .int x2, .int 0, .retAddr 0]) rfl ?_
  refine xo_8 ?_
  refine xo_5 (ls' := [.ref 7, .ref 1, .int x2, .int 0, .int 0]) rfl ?_
  exact t_X7_takeSigned_1_b5 hS hrec_X7_takeInner_1 1000 h
/-- Rule.takeInner, at ['x.rule', 'x.text', 'int'] -/
def f_X7_takeInner_1 (rec : Nat → List Int32 → jT → Option (Int32 × jT)) (x2 : Int32) (σ : jT) : Option (Int32 × jT) :=
  if x2 < 4 then
    (f_X9_next σ).bind fun q2 =>
    (rec 0 [0, (x2 + 1)] q2.2).bind fun q3 =>
    if q3.1 = 0 then
      some (0, q3.2)
    else
      (f_X9_take 41 q3.2).bind fun q5 =>
      if q5.1 = 0 then
        some (0, q5.2)
      else
        some (1, q5.2)
  else
    some (0, σ)
theorem t_X7_takeInner_1 {S : jS} (hS : jCok S) {d : Nat} {Q : Option Value → jx_H → Prop} {rec : Nat → List Int32 → jT → Option (Int32 × jT)} (hrec_X7_takeJoined_1 : ∀ {x2 : Int32} {x3 : Int32} {σ : jT} {Q : Option Value → jx_H → Prop}, jw (rec 0 [x2, x3] σ) (fun q => Q (some (.int q.1)) (jh S q.2)) → jx_Sp (d + 2) 81 [.ref 7, .ref 1, .int x2, .int x3] (jh S σ) Q) {x2 : Int32} {σ : jT} (h : jw (f_X7_takeInner_1 rec x2 σ) (fun q => Q (some (.int q.1)) (jh S q.2))) : jx_Sp (d + 3) 84 [.ref 7, .ref 1, .int x2] (jh S σ) Q := by
  refine ⟨jm_i84, jm_at84, rfl, rfl, ?_⟩
  show jx_Ex _ jm_l84 jm_b84_0 [.ref 7, .ref 1, .int x2] [] _ _
  unfold f_X7_takeInner_1 at h
  refine xo_0 rfl ?_
  refine xo_8 ?_
  refine xo_63 (t := jm_b84_7) rfl (fun hc1 => ?_) (fun hc1 => ?_)
  · replace h := jw_pos hc1 h
    refine xo_2 rfl ?_
    refine xo_49 (st' := []) rfl rfl (xc_ly hS ly1) rfl (Nat.le_of_ble_eq_true rfl) ?_
    refine t_X9_next hS ?_
    refine jw_mono (jw_bind h) (fun q2 h => ?_)
    show jx_Ex _ _ _ _ [.int q2.1] (jh S q2.2) _
    refine xo_31 ?_
    refine xo_2 rfl ?_
    refine xo_2 rfl ?_
    refine xo_8 ?_
    refine xo_0 rfl ?_
    refine xo_8 ?_
    refine xo_14 ?_
    refine xo_49 (st' := []) rfl rfl (xc_ly hS ly7) rfl (Nat.le_of_ble_eq_true rfl) ?_
    refine hrec_X7_takeJoined_1 ?_
    refine jw_mono (jw_bind h) (fun q3 h => ?_)
    show jx_Ex _ _ _ _ [.int q3.1] (jh S q3.2) _
    refine xo_55 (t := jm_b84_37) rfl (fun hc4 => ?_) (fun hc4 => ?_)
    · replace h := jw_pos hc4 h
      refine xo_8 ?_
      replace h := jw_some h
      exact xo_70 (by decide) h
    · replace h := jw_neg hc4 h
      refine xo_2 rfl ?_
      refine xo_9 ?_
      refine xo_49 (st' := []) rfl rfl (xc_ly hS ly1) rfl (Nat.le_of_ble_eq_true rfl) ?_
      refine t_X9_take hS ?_
      refine jw_mono (jw_bind h) (fun q5 h => ?_)
      show jx_Ex _ _ _ _ [.int q5.1] (jh S q5.2) _
      refine xo_55 (t := jm_b84_37) rfl (fun hc6 => ?_) (fun hc6 => ?_)
      · replace h := jw_pos hc6 h
        refine xo_8 ?_
        replace h := jw_some h
        exact xo_70 (by decide) h
      · replace h := jw_neg hc6 h
        refine xo_8 ?_
        refine xo_54 (t := jm_b84_38) rfl ?_
        replace h := jw_some h
        exact xo_70 (by decide) h
  · replace h := jw_neg hc1 h
    refine xo_8 ?_
    replace h := jw_some h
    exact xo_70 (by decide) h
def f_rec0 : Nat → Nat → List Int32 → jT → Option (Int32 × jT)
  | 0, _, _, _ => none
  | n + 1, 0, [x2, x3], σ => f_X7_takeJoined_1 (f_rec0 n) x2 x3 σ
  | n + 1, 1, [x2], σ => f_X7_takeSigned_1 (f_rec0 n) x2 σ
  | n + 1, 2, [x2], σ => f_X7_takeInner_1 (f_rec0 n) x2 σ
  | _ + 1, _, _, _ => none
theorem t_rec0 {S : jS} (hS : jCok S) : ∀ (n : Nat), (∀ {x2 : Int32} {x3 : Int32} {σ : jT} {Q : Option Value → jx_H → Prop}, jw (f_rec0 n 0 [x2, x3] σ) (fun q => Q (some (.int q.1)) (jh S q.2)) → jx_Sp (n + 2) 81 [.ref 7, .ref 1, .int x2, .int x3] (jh S σ) Q) ∧ (∀ {x2 : Int32} {σ : jT} {Q : Option Value → jx_H → Prop}, jw (f_rec0 n 1 [x2] σ) (fun q => Q (some (.int q.1)) (jh S q.2)) → jx_Sp (n + 2) 83 [.ref 7, .ref 1, .int x2] (jh S σ) Q) ∧ (∀ {x2 : Int32} {σ : jT} {Q : Option Value → jx_H → Prop}, jw (f_rec0 n 2 [x2] σ) (fun q => Q (some (.int q.1)) (jh S q.2)) → jx_Sp (n + 2) 84 [.ref 7, .ref 1, .int x2] (jh S σ) Q) := by
  intro n
  induction n with
  | zero => exact ⟨fun h => jw_none h, fun h => jw_none h, fun h => jw_none h⟩
  | succ n ih =>
    obtain ⟨hr0, hr1, hr2⟩ := ih
    have g0 : (∀ {x2 : Int32} {x3 : Int32} {σ : jT} {Q : Option Value → jx_H → Prop}, jw (f_rec0 (n + 1) 0 [x2, x3] σ) (fun q => Q (some (.int q.1)) (jh S q.2)) → jx_Sp (n + 1 + 2) 81 [.ref 7, .ref 1, .int x2, .int x3] (jh S σ) Q) := by
      intro x2 x3 σ Q h
      rw [show n + 1 + 2 = n + 3 by omega]
      exact t_X7_takeJoined_1 hS hr0 hr1 h
    have g1 : (∀ {x2 : Int32} {σ : jT} {Q : Option Value → jx_H → Prop}, jw (f_rec0 (n + 1) 1 [x2] σ) (fun q => Q (some (.int q.1)) (jh S q.2)) → jx_Sp (n + 1 + 2) 83 [.ref 7, .ref 1, .int x2] (jh S σ) Q) := by
      intro x2 σ Q h
      rw [show n + 1 + 2 = n + 3 by omega]
      exact t_X7_takeSigned_1 hS hr2 h
    have g2 : (∀ {x2 : Int32} {σ : jT} {Q : Option Value → jx_H → Prop}, jw (f_rec0 (n + 1) 2 [x2] σ) (fun q => Q (some (.int q.1)) (jh S q.2)) → jx_Sp (n + 1 + 2) 84 [.ref 7, .ref 1, .int x2] (jh S σ) Q) := by
      intro x2 σ Q h
      rw [show n + 1 + 2 = n + 3 by omega]
      exact t_X7_takeInner_1 hS hr0 h
    exact ⟨g0, g1, g2⟩
theorem tr_X7_takeJoined_1 {S : jS} (hS : jCok S) {d : Nat} {x2 : Int32} {x3 : Int32} {σ : jT} {Q : Option Value → jx_H → Prop} (h : jw (f_rec0 100 0 [x2, x3] σ) (fun q => Q (some (.int q.1)) (jh S q.2))) : jx_Sp (d + 102) 81 [.ref 7, .ref 1, .int x2, .int x3] (jh S σ) Q := jx_Sp.mono (by omega) ((t_rec0 hS 100).1 h)
theorem tr_X7_takeSigned_1 {S : jS} (hS : jCok S) {d : Nat} {x2 : Int32} {σ : jT} {Q : Option Value → jx_H → Prop} (h : jw (f_rec0 100 1 [x2] σ) (fun q => Q (some (.int q.1)) (jh S q.2))) : jx_Sp (d + 102) 83 [.ref 7, .ref 1, .int x2] (jh S σ) Q := jx_Sp.mono (by omega) ((t_rec0 hS 100).2.1 h)
theorem tr_X7_takeInner_1 {S : jS} (hS : jCok S) {d : Nat} {x2 : Int32} {σ : jT} {Q : Option Value → jx_H → Prop} (h : jw (f_rec0 100 2 [x2] σ) (fun q => Q (some (.int q.1)) (jh S q.2))) : jx_Sp (d + 102) 84 [.ref 7, .ref 1, .int x2] (jh S σ) Q := jx_Sp.mono (by omega) ((t_rec0 hS 100).2.2 h)
/-- Rule.read, at ['x.rule', 'x.text'] -/
def f_X7_read_1_b45 (σ : jT) : Option (Int32 × jT) :=
  some ((-1), (gs (gC σ 9 8 0 0 40) 452 (σ.1 453)))
def f_X7_read_1 (σ : jT) : Option (Int32 × jT) :=
  (f_X9_open 40 (gs σ 453 0)).bind fun q1 =>
  (f_X9_length q1.2).bind fun q2 =>
  if q2.1 ≤ 0 then
    f_X7_read_1_b45 q2.2
  else
    (f_rec0 100 0 [0, 0] q2.2).bind fun q4 =>
    if ¬ q4.1 = 0 then
      (f_X9_goesOn q4.2).bind fun q6 =>
      if q6.1 = (-1) then
        f_X7_read_1_b45 q6.2
      else
        some (q6.1, q6.2)
    else
      (f_X9_position q4.2).bind fun q8 =>
      some (q8.1, q8.2)
theorem t_X7_read_1_b45 {S : jS} (hS : jCok S) {d : Nat} {Q : Option Value → jx_H → Prop} {w1 : Value} {w2 : Value} {σ : jT} (h : jw (f_X7_read_1_b45 σ) (fun q => Q (some (.int q.1)) (jh S q.2))) : jx_Ex (d + 103) jm_l79 jm_b79_45 [.ref 7, w1, w2] [] (jh S σ) Q := by
  unfold f_X7_read_1_b45 at h
  refine xo_2 rfl ?_
  refine xc_33 (i := 449) (q := 9) hS ly7 rfl (xc_P hS (by decide)) ?_
  refine xo_8 ?_
  refine xo_2 rfl ?_
  refine xc_33 (i := 448) (q := 8) hS ly7 rfl (xc_P hS (by decide)) ?_
  refine xo_8 ?_
  refine xo_9 ?_
  refine xc_53 (sp' := 0) (dp' := 0) (n' := 40) hS ly9 ly8 ⟨Nat.le_of_ble_eq_true rfl, Nat.le_of_ble_eq_true rfl⟩ ⟨Nat.le_of_ble_eq_true rfl, Nat.le_of_ble_eq_true rfl⟩ (by decide) (by decide) (by decide) (by decide) (by decide) (by decide) (Nat.le_of_ble_eq_true rfl) ?_
  refine xo_2 rfl ?_
  refine xo_2 rfl ?_
  refine xc_32 (i := 453) (v := (σ.1 453)) hS ly7 rfl ⟨Nat.le_of_ble_eq_true rfl, Nat.le_of_ble_eq_true rfl⟩ rfl ?_
  refine xc_34 (i := 452) hS ly7 rfl ⟨Nat.le_of_ble_eq_true rfl, Nat.le_of_ble_eq_true rfl⟩ ?_
  refine xo_8 ?_
  replace h := jw_some h
  exact xo_69 h
theorem t_X7_read_1 {S : jS} (hS : jCok S) {d : Nat} {Q : Option Value → jx_H → Prop} {σ : jT} (h : jw (f_X7_read_1 σ) (fun q => Q (some (.int q.1)) (jh S q.2))) : jx_Sp (d + 103) 79 [.ref 7, .ref 1] (jh S σ) Q := by
  refine ⟨jm_i79, jm_at79, rfl, rfl, ?_⟩
  show jx_Ex _ jm_l79 jm_b79_0 [.ref 7, .ref 1, .retAddr 0] [] _ _
  unfold f_X7_read_1 at h
  refine xo_2 rfl ?_
  refine xo_8 ?_
  refine xc_34 (i := 453) hS ly7 rfl ⟨Nat.le_of_ble_eq_true rfl, Nat.le_of_ble_eq_true rfl⟩ ?_
  refine xo_2 rfl ?_
  refine xo_9 ?_
  refine xo_49 (st' := []) rfl rfl (xc_ly hS ly1) rfl (Nat.le_of_ble_eq_true rfl) ?_
  refine t_X9_open hS ?_
  refine jw_mono (jw_bind h) (fun q1 h => ?_)
  show jx_Ex _ _ _ _ [] (jh S q1.2) _
  refine xo_2 rfl ?_
  refine xo_49 (st' := []) rfl rfl (xc_ly hS ly1) rfl (Nat.le_of_ble_eq_true rfl) ?_
  refine t_X9_length hS ?_
  refine jw_mono (jw_bind h) (fun q2 h => ?_)
  show jx_Ex _ _ _ _ [.int q2.1] (jh S q2.2) _
  refine xo_60 (t := jm_b79_45) rfl (fun hc3 => ?_) (fun hc3 => ?_)
  · replace h := jw_pos hc3 h
    exact t_X7_read_1_b45 hS h
  · replace h := jw_neg hc3 h
    refine xo_2 rfl ?_
    refine xo_2 rfl ?_
    refine xo_8 ?_
    refine xo_8 ?_
    refine xo_49 (st' := []) rfl rfl (xc_ly hS ly7) rfl (Nat.le_of_ble_eq_true rfl) ?_
    refine tr_X7_takeJoined_1 hS ?_
    refine jw_mono (jw_bind h) (fun q4 h => ?_)
    show jx_Ex _ _ _ _ [.int q4.1] (jh S q4.2) _
    refine xo_56 (t := jm_b79_33) rfl (fun hc5 => ?_) (fun hc5 => ?_)
    · replace h := jw_pos hc5 h
      refine xo_2 rfl ?_
      refine xo_49 (st' := []) rfl rfl (xc_ly hS ly1) rfl (Nat.le_of_ble_eq_true rfl) ?_
      refine t_X9_goesOn hS ?_
      refine jw_mono (jw_bind h) (fun q6 h => ?_)
      show jx_Ex _ _ _ _ [.int q6.1] (jh S q6.2) _
      refine xo_4 (ls' := [.ref 7, .ref 1, .int q6.1]) rfl ?_
      refine xo_0 rfl ?_
      refine xo_8 ?_
      refine xo_61 (t := jm_b79_45) rfl (fun hc7 => ?_) (fun hc7 => ?_)
      · replace h := jw_pos hc7 h
        exact t_X7_read_1_b45 hS h
      · replace h := jw_neg hc7 h
        refine xo_0 rfl ?_
        replace h := jw_some h
        exact xo_69 h
    · replace h := jw_neg hc5 h
      refine xo_2 rfl ?_
      refine xo_49 (st' := []) rfl rfl (xc_ly hS ly1) rfl (Nat.le_of_ble_eq_true rfl) ?_
      refine t_X9_position hS ?_
      refine jw_mono (jw_bind h) (fun q8 h => ?_)
      show jx_Ex _ _ _ _ [.int q8.1] (jh S q8.2) _
      replace h := jw_some h
      exact xo_69 h
/-- OfDifferentMinds.rule, at ['x'] -/
def f_X10_rule (σ : jT) : Option (Int32 × jT) :=
  (f_X7_read_1 σ).bind fun q1 =>
  (f_X9_clear q1.2).bind fun q2 =>
  if ¬ q1.1 = (-1) then
    some (((-1) - q1.1), q2.2)
  else
    some (0, q2.2)
theorem t_X10_rule {S : jS} (hS : jCok S) {d : Nat} {Q : Option Value → jx_H → Prop} {σ : jT} (h : jw (f_X10_rule σ) (fun q => Q (some (.int q.1)) (jh S q.2))) : jx_Sp (d + 104) 134 [.ref 0] (jh S σ) Q := by
  refine ⟨jm_i134, jm_at134, rfl, rfl, ?_⟩
  show jx_Ex _ jm_l134 jm_b134_0 [.ref 0, .retAddr 0] [] _ _
  unfold f_X10_rule at h
  refine xo_2 rfl ?_
  refine xc_33 (i := 2) (q := 7) hS ly0 rfl (xc_P hS (by decide)) ?_
  refine xo_2 rfl ?_
  refine xc_33 (i := 0) (q := 1) hS ly0 rfl (xc_P hS (by decide)) ?_
  refine xo_49 (st' := []) rfl rfl (xc_ly hS ly7) rfl (Nat.le_of_ble_eq_true rfl) ?_
  refine t_X7_read_1 hS ?_
  refine jw_mono (jw_bind h) (fun q1 h => ?_)
  show jx_Ex _ _ _ _ [.int q1.1] (jh S q1.2) _
  refine xo_4 (ls' := [.ref 0, .int q1.1]) rfl ?_
  refine xo_2 rfl ?_
  refine xc_33 (i := 0) (q := 1) hS ly0 rfl (xc_P hS (by decide)) ?_
  refine xo_49 (st' := []) rfl rfl (xc_ly hS ly1) rfl (Nat.le_of_ble_eq_true rfl) ?_
  refine t_X9_clear hS ?_
  refine jw_mono (jw_bind h) (fun q2 h => ?_)
  show jx_Ex _ _ _ _ [] (jh S q2.2) _
  refine xo_0 rfl ?_
  refine xo_8 ?_
  refine xo_62 (t := jm_b134_28) rfl (fun hc3 => ?_) (fun hc3 => ?_)
  · replace h := jw_pos hc3 h
    refine xo_8 ?_
    refine xo_0 rfl ?_
    refine xo_15 ?_
    replace h := jw_some h
    exact xo_69 h
  · replace h := jw_neg hc3 h
    refine xo_8 ?_
    refine xo_54 (t := jm_b134_31) rfl ?_
    replace h := jw_some h
    exact xo_69 h
/-- Land.hasRider, at ['x.land', 'int'] -/
def f_X3_hasRider (x1 : Int32) (σ : jT) : Option (Int32 × jT) :=
  if x1 < 0 then
    some (0, σ)
  else
    if (σ.1 197) ≤ x1 then
      some (0, σ)
    else
      some (1, σ)
theorem t_X3_hasRider {S : jS} (hS : jCok S) {d : Nat} {Q : Option Value → jx_H → Prop} {x1 : Int32} {σ : jT} (h : jw (f_X3_hasRider x1 σ) (fun q => Q (some (.int q.1)) (jh S q.2))) : jx_Sp (d) 31 [.ref 3, .int x1] (jh S σ) Q := by
  refine ⟨jm_i31, jm_at31, rfl, rfl, ?_⟩
  show jx_Ex _ jm_l31 jm_b31_0 [.ref 3, .int x1] [] _ _
  unfold f_X3_hasRider at h
  refine xo_0 rfl ?_
  refine xo_57 (t := jm_b31_16) rfl (fun hc1 => ?_) (fun hc1 => ?_)
  · replace h := jw_pos hc1 h
    refine xo_8 ?_
    replace h := jw_some h
    exact xo_70 (by decide) h
  · replace h := jw_neg hc1 h
    refine xo_0 rfl ?_
    refine xo_2 rfl ?_
    refine xc_32 (i := 197) (v := (σ.1 197)) hS ly3 rfl ⟨Nat.le_of_ble_eq_true rfl, Nat.le_of_ble_eq_true rfl⟩ rfl ?_
    refine xo_64 (t := jm_b31_16) rfl (fun hc2 => ?_) (fun hc2 => ?_)
    · replace h := jw_pos hc2 h
      refine xo_8 ?_
      replace h := jw_some h
      exact xo_70 (by decide) h
    · replace h := jw_neg hc2 h
      refine xo_8 ?_
      refine xo_54 (t := jm_b31_17) rfl ?_
      replace h := jw_some h
      exact xo_70 (by decide) h
/-- Land.hasPlace, at ['x.land', 'int'] -/
def f_X3_hasPlace (x1 : Int32) (σ : jT) : Option (Int32 × jT) :=
  if x1 < 0 then
    some (0, σ)
  else
    if (σ.1 195) ≤ x1 then
      some (0, σ)
    else
      some (1, σ)
theorem t_X3_hasPlace {S : jS} (hS : jCok S) {d : Nat} {Q : Option Value → jx_H → Prop} {x1 : Int32} {σ : jT} (h : jw (f_X3_hasPlace x1 σ) (fun q => Q (some (.int q.1)) (jh S q.2))) : jx_Sp (d) 30 [.ref 3, .int x1] (jh S σ) Q := by
  refine ⟨jm_i30, jm_at30, rfl, rfl, ?_⟩
  show jx_Ex _ jm_l30 jm_b30_0 [.ref 3, .int x1] [] _ _
  unfold f_X3_hasPlace at h
  refine xo_0 rfl ?_
  refine xo_57 (t := jm_b30_16) rfl (fun hc1 => ?_) (fun hc1 => ?_)
  · replace h := jw_pos hc1 h
    refine xo_8 ?_
    replace h := jw_some h
    exact xo_70 (by decide) h
  · replace h := jw_neg hc1 h
    refine xo_0 rfl ?_
    refine xo_2 rfl ?_
    refine xc_32 (i := 195) (v := (σ.1 195)) hS ly3 rfl ⟨Nat.le_of_ble_eq_true rfl, Nat.le_of_ble_eq_true rfl⟩ rfl ?_
    refine xo_64 (t := jm_b30_16) rfl (fun hc2 => ?_) (fun hc2 => ?_)
    · replace h := jw_pos hc2 h
      refine xo_8 ?_
      replace h := jw_some h
      exact xo_70 (by decide) h
    · replace h := jw_neg hc2 h
      refine xo_8 ?_
      refine xo_54 (t := jm_b30_17) rfl ?_
      replace h := jw_some h
      exact xo_70 (by decide) h
