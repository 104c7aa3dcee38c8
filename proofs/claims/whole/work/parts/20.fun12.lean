/-! ===== methods as functions ===== -/
/-- OfDifferentMindsModel.has, at ['int', 'int'] K -/
def f_X11_has (x0 : Int32) (x1 : Int32) (σ : jT) : Option (Int32 × jT) :=
  if ¬ ((x0 >>> (x1 &&& 31)) &&& 1) = 1 then
    some (0, σ)
  else
    some (1, σ)
theorem t_X11_has {S : jS} (hS : jMok S) {d : Nat} {Q : Option Value → jx_H → Prop} {rd : Value} {x0 : Int32} {x1 : Int32} {σ : jT} (h : jw (f_X11_has x0 x1 σ) (fun q => Q (some (.int q.1)) (jh (jSrd S rd) q.2))) : jx_Sp (d) 203 [.int x0, .int x1] (jh (jSrd S rd) σ) Q := by
  refine ⟨jm_i203, jm_at203, rfl, rfl, ?_⟩
  show jx_Ex _ jm_l203 jm_b203_0 [.int x0, .int x1] [] _ _
  unfold f_X11_has at h
  refine xo_0 rfl ?_
  refine xo_0 rfl ?_
  refine xo_24 ?_
  refine xo_8 ?_
  refine xo_20 ?_
  refine xo_8 ?_
  refine xo_62 (t := jm_b203_13) rfl (fun hc1 => ?_) (fun hc1 => ?_)
  · replace h := jw_pos hc1 h
    refine xo_8 ?_
    replace h := jw_some h
    exact xo_70 (by decide) h
  · replace h := jw_neg hc1 h
    refine xo_8 ?_
    refine xo_54 (t := jm_b203_14) rfl ?_
    replace h := jw_some h
    exact xo_70 (by decide) h
/-- OfDifferentMindsModel.isAtInn, at ['m', 'int'] K -/
def f_X11_isAtInn (x1 : Int32) (σ : jT) : Option (Int32 × jT) :=
  (f_X11_isOn_66 x1 σ).bind fun q1 =>
  if ¬ q1.1 = 0 then
    some (0, q1.2)
  else
    if jx_in (10 + x1) 28 then
    (f_X11_has (q1.2.1 4164) (q1.2.2 66 (10 + x1).toNatClampNeg) q1.2).bind fun q4 =>
    if q4.1 = 0 then
      some (0, q4.2)
    else
      some (1, q4.2)
    else none
theorem t_X11_isAtInn {S : jS} (hS : jMok S) {d : Nat} {Q : Option Value → jx_H → Prop} {rd : Value} {x1 : Int32} {σ : jT} (h : jw (f_X11_isAtInn x1 σ) (fun q => Q (some (.int q.1)) (jh (jSrd S rd) q.2))) : jx_Sp (d + 1) 257 [.ref 65, .int x1] (jh (jSrd S rd) σ) Q := by
  refine ⟨jm_i257, jm_at257, rfl, rfl, ?_⟩
  show jx_Ex _ jm_l257 jm_b257_0 [.ref 65, .int x1] [] _ _
  unfold f_X11_isAtInn at h
  refine xo_2 rfl ?_
  refine xm_33 (i := 4160) (q := 66) (jSrd_ok hS rd) ly65 rfl (xm_P (jSrd_ok hS rd) (by decide)) ?_
  refine xo_0 rfl ?_
  refine xo_50 (st' := []) rfl rfl rfl (Nat.le_of_ble_eq_true rfl) ?_
  refine t_X11_isOn_66 hS ?_
  refine jw_mono (jw_bind h) (fun q1 h => ?_)
  show jx_Ex _ _ _ _ [.int q1.1] (jh (jSrd S rd) q1.2) _
  refine xo_56 (t := jm_b257_34) rfl (fun hc2 => ?_) (fun hc2 => ?_)
  · replace h := jw_pos hc2 h
    refine xo_8 ?_
    replace h := jw_some h
    exact xo_70 (by decide) h
  · replace h := jw_neg hc2 h
    refine xo_2 rfl ?_
    refine xm_32 (i := 4164) (v := (q1.2.1 4164)) (jSrd_ok hS rd) ly65 rfl ⟨Nat.le_of_ble_eq_true rfl, Nat.le_of_ble_eq_true rfl⟩ rfl ?_
    refine xo_2 rfl ?_
    refine xm_33 (i := 4160) (q := 66) (jSrd_ok hS rd) ly65 rfl (xm_P (jSrd_ok hS rd) (by decide)) ?_
    refine xo_9 ?_
    refine xo_0 rfl ?_
    refine xo_14 ?_
    obtain ⟨hi3, h⟩ := jw_chk h
    refine xm_38 (j := (10 + x1).toNatClampNeg) (v := (q1.2.2 66 (10 + x1).toNatClampNeg)) (jSrd_ok hS rd) ly66 ⟨Nat.le_of_ble_eq_true rfl, Nat.le_of_ble_eq_true rfl⟩ hi3 rfl rfl ?_
    refine xo_50 (st' := []) rfl rfl rfl (Nat.le_of_ble_eq_true rfl) ?_
    refine t_X11_has hS ?_
    refine jw_mono (jw_bind h) (fun q4 h => ?_)
    show jx_Ex _ _ _ _ [.int q4.1] (jh (jSrd S rd) q4.2) _
    refine xo_55 (t := jm_b257_34) rfl (fun hc5 => ?_) (fun hc5 => ?_)
    · replace h := jw_pos hc5 h
      refine xo_8 ?_
      replace h := jw_some h
      exact xo_70 (by decide) h
    · replace h := jw_neg hc5 h
      refine xo_8 ?_
      refine xo_54 (t := jm_b257_35) rfl ?_
      replace h := jw_some h
      exact xo_70 (by decide) h
/-- OfDifferentMindsModel.refusesRest, at ['m', 'int'] K -/
def f_X11_refusesRest (x1 : Int32) (σ : jT) : Option (Int32 × jT) :=
  (f_X11_isRider x1 σ).bind fun q1 =>
  if ¬ q1.1 = 0 then
    (f_X11_isAtInn x1 q1.2).bind fun q3 =>
    if q3.1 = 0 then
      some ((-2), q3.2)
    else
      some (0, q3.2)
  else
    some ((-1), q1.2)
theorem t_X11_refusesRest {S : jS} (hS : jMok S) {d : Nat} {Q : Option Value → jx_H → Prop} {rd : Value} {x1 : Int32} {σ : jT} (h : jw (f_X11_refusesRest x1 σ) (fun q => Q (some (.int q.1)) (jh (jSrd S rd) q.2))) : jx_Sp (d + 2) 258 [.ref 65, .int x1] (jh (jSrd S rd) σ) Q := by
  refine ⟨jm_i258, jm_at258, rfl, rfl, ?_⟩
  show jx_Ex _ jm_l258 jm_b258_0 [.ref 65, .int x1] [] _ _
  unfold f_X11_refusesRest at h
  refine xo_2 rfl ?_
  refine xo_0 rfl ?_
  refine xo_49 (st' := []) rfl rfl (xm_ly (jSrd_ok hS rd) ly65) rfl (Nat.le_of_ble_eq_true rfl) ?_
  refine t_X11_isRider hS ?_
  refine jw_mono (jw_bind h) (fun q1 h => ?_)
  show jx_Ex _ _ _ _ [.int q1.1] (jh (jSrd S rd) q1.2) _
  refine xo_56 (t := jm_b258_12) rfl (fun hc2 => ?_) (fun hc2 => ?_)
  · replace h := jw_pos hc2 h
    refine xo_2 rfl ?_
    refine xo_0 rfl ?_
    refine xo_49 (st' := []) rfl rfl (xm_ly (jSrd_ok hS rd) ly65) rfl (Nat.le_of_ble_eq_true rfl) ?_
    refine t_X11_isAtInn hS ?_
    refine jw_mono (jw_bind h) (fun q3 h => ?_)
    show jx_Ex _ _ _ _ [.int q3.1] (jh (jSrd S rd) q3.2) _
    refine xo_55 (t := jm_b258_24) rfl (fun hc4 => ?_) (fun hc4 => ?_)
    · replace h := jw_pos hc4 h
      refine xo_9 ?_
      replace h := jw_some h
      exact xo_69 h
    · replace h := jw_neg hc4 h
      refine xo_8 ?_
      refine xo_54 (t := jm_b258_26) rfl ?_
      replace h := jw_some h
      exact xo_69 h
  · replace h := jw_neg hc2 h
    refine xo_8 ?_
    refine xo_54 (t := jm_b258_26) rfl ?_
    replace h := jw_some h
    exact xo_69 h
/-- OfDifferentMindsModel.goRest, at ['m', 'int'] K -/
def f_X11_goRest (x1 : Int32) (σ : jT) : Option (Int32 × jT) :=
  if jx_in (4 + x1) 28 then
  if jx_in (16 + x1) 28 then
  some ((σ.2 66 (4 + x1).toNatClampNeg), (gA (gA σ 66 (4 + x1).toNatClampNeg 0) 66 (16 + x1).toNatClampNeg (-1)))
  else none
  else none
theorem t_X11_goRest {S : jS} (hS : jMok S) {d : Nat} {Q : Option Value → jx_H → Prop} {rd : Value} {x1 : Int32} {σ : jT} (h : jw (f_X11_goRest x1 σ) (fun q => Q (some (.int q.1)) (jh (jSrd S rd) q.2))) : jx_Sp (d) 259 [.ref 65, .int x1] (jh (jSrd S rd) σ) Q := by
  refine ⟨jm_i259, jm_at259, rfl, rfl, ?_⟩
  show jx_Ex _ jm_l259 jm_b259_0 [.ref 65, .int x1, .retAddr 0] [] _ _
  unfold f_X11_goRest at h
  refine xo_2 rfl ?_
  refine xm_33 (i := 4160) (q := 66) (jSrd_ok hS rd) ly65 rfl (xm_P (jSrd_ok hS rd) (by decide)) ?_
  refine xo_8 ?_
  refine xo_0 rfl ?_
  refine xo_14 ?_
  obtain ⟨hi1, h⟩ := jw_chk h
  refine xm_38 (j := (4 + x1).toNatClampNeg) (v := (σ.2 66 (4 + x1).toNatClampNeg)) (jSrd_ok hS rd) ly66 ⟨Nat.le_of_ble_eq_true rfl, Nat.le_of_ble_eq_true rfl⟩ hi1 rfl rfl ?_
  refine xo_4 (ls' := [.ref 65, .int x1, .int (σ.2 66 (4 + x1).toNatClampNeg)]) rfl ?_
  refine xo_2 rfl ?_
  refine xm_33 (i := 4160) (q := 66) (jSrd_ok hS rd) ly65 rfl (xm_P (jSrd_ok hS rd) (by decide)) ?_
  refine xo_8 ?_
  refine xo_0 rfl ?_
  refine xo_14 ?_
  refine xo_8 ?_
  refine xm_41 (j := (4 + x1).toNatClampNeg) (jSrd_ok hS rd) ly66 ⟨Nat.le_of_ble_eq_true rfl, Nat.le_of_ble_eq_true rfl⟩ hi1 rfl ?_
  refine xo_2 rfl ?_
  refine xm_33 (i := 4160) (q := 66) (jSrd_ok hS rd) ly65 rfl (xm_P (jSrd_ok hS rd) (by decide)) ?_
  refine xo_9 ?_
  refine xo_0 rfl ?_
  refine xo_14 ?_
  refine xo_8 ?_
  obtain ⟨hi2, h⟩ := jw_chk h
  refine xm_41 (j := (16 + x1).toNatClampNeg) (jSrd_ok hS rd) ly66 ⟨Nat.le_of_ble_eq_true rfl, Nat.le_of_ble_eq_true rfl⟩ hi2 rfl ?_
  refine xo_0 rfl ?_
  replace h := jw_some h
  exact xo_69 h
/-- OfDifferentMindsModel.rest, at ['m', 'int'] K -/
def f_X11_rest (x1 : Int32) (σ : jT) : Option (Int32 × jT) :=
  (f_X11_refusesRest x1 (gs σ 4172 0)).bind fun q1 =>
  if 0 ≤ q1.1 then
    (f_X11_remember_66 q1.2).bind fun q3 =>
    (f_X11_goRest x1 q3.2).bind fun q4 =>
    some (q4.1, q4.2)
  else
    some (q1.1, q1.2)
theorem t_X11_rest {S : jS} (hS : jMok S) {d : Nat} {Q : Option Value → jx_H → Prop} {rd : Value} {x1 : Int32} {σ : jT} (h : jw (f_X11_rest x1 σ) (fun q => Q (some (.int q.1)) (jh (jSrd S rd) q.2))) : jx_Sp (d + 3) 260 [.ref 65, .int x1] (jh (jSrd S rd) σ) Q := by
  refine ⟨jm_i260, jm_at260, rfl, rfl, ?_⟩
  show jx_Ex _ jm_l260 jm_b260_0 [.ref 65, .int x1, .retAddr 0] [] _ _
  unfold f_X11_rest at h
  refine xo_2 rfl ?_
  refine xo_8 ?_
  refine xm_34 (i := 4172) (jSrd_ok hS rd) ly65 rfl ⟨Nat.le_of_ble_eq_true rfl, Nat.le_of_ble_eq_true rfl⟩ ?_
  refine xo_2 rfl ?_
  refine xo_0 rfl ?_
  refine xo_49 (st' := []) rfl rfl (xm_ly (jSrd_ok hS rd) ly65) rfl (Nat.le_of_ble_eq_true rfl) ?_
  refine t_X11_refusesRest hS ?_
  refine jw_mono (jw_bind h) (fun q1 h => ?_)
  show jx_Ex _ _ _ _ [.int q1.1] (jh (jSrd S rd) q1.2) _
  refine xo_4 (ls' := [.ref 65, .int x1, .int q1.1]) rfl ?_
  refine xo_0 rfl ?_
  refine xo_58 (t := jm_b260_17) rfl (fun hc2 => ?_) (fun hc2 => ?_)
  · replace h := jw_pos hc2 h
    refine xo_2 rfl ?_
    refine xo_2 rfl ?_
    refine xm_33 (i := 4160) (q := 66) (jSrd_ok hS rd) ly65 rfl (xm_P (jSrd_ok hS rd) (by decide)) ?_
    refine xo_49 (st' := []) rfl rfl (xm_ly (jSrd_ok hS rd) ly65) rfl (Nat.le_of_ble_eq_true rfl) ?_
    refine t_X11_remember_66 hS ?_
    refine jw_mono (jw_bind h) (fun q3 h => ?_)
    show jx_Ex _ _ _ _ [] (jh (jSrd S rd) q3.2) _
    refine xo_2 rfl ?_
    refine xo_0 rfl ?_
    refine xo_49 (st' := []) rfl rfl (xm_ly (jSrd_ok hS rd) ly65) rfl (Nat.le_of_ble_eq_true rfl) ?_
    refine t_X11_goRest hS ?_
    refine jw_mono (jw_bind h) (fun q4 h => ?_)
    show jx_Ex _ _ _ _ [.int q4.1] (jh (jSrd S rd) q4.2) _
    replace h := jw_some h
    exact xo_69 h
  · replace h := jw_neg hc2 h
    refine xo_0 rfl ?_
    replace h := jw_some h
    exact xo_69 h
/-- OfDifferentMindsModel.refusesDeal, at ['m', 'int', 'int'] K -/
def f_X11_refusesDeal (x1 : Int32) (x2 : Int32) (σ : jT) : Option (Int32 × jT) :=
  (f_X11_areTwo x1 x2 σ).bind fun q1 =>
  if ¬ q1.1 = 0 then
    (f_X11_isAtInn x1 q1.2).bind fun q3 =>
    if q3.1 = 0 then
      some ((-2), q3.2)
    else
      (f_X11_isAtInn x2 q3.2).bind fun q5 =>
      if q5.1 = 0 then
        some ((-2), q5.2)
      else
        if jx_in (10 + x1) 28 then
        if jx_in (10 + x2) 28 then
        if ¬ (q5.2.2 66 (10 + x1).toNatClampNeg) = (q5.2.2 66 (10 + x2).toNatClampNeg) then
          some ((-2), q5.2)
        else
          some (0, q5.2)
        else none
        else none
  else
    some ((-1), q1.2)
theorem t_X11_refusesDeal {S : jS} (hS : jMok S) {d : Nat} {Q : Option Value → jx_H → Prop} {rd : Value} {x1 : Int32} {x2 : Int32} {σ : jT} (h : jw (f_X11_refusesDeal x1 x2 σ) (fun q => Q (some (.int q.1)) (jh (jSrd S rd) q.2))) : jx_Sp (d + 3) 261 [.ref 65, .int x1, .int x2] (jh (jSrd S rd) σ) Q := by
  refine ⟨jm_i261, jm_at261, rfl, rfl, ?_⟩
  show jx_Ex _ jm_l261 jm_b261_0 [.ref 65, .int x1, .int x2] [] _ _
  unfold f_X11_refusesDeal at h
  refine xo_2 rfl ?_
  refine xo_0 rfl ?_
  refine xo_0 rfl ?_
  refine xo_49 (st' := []) rfl rfl (xm_ly (jSrd_ok hS rd) ly65) rfl (Nat.le_of_ble_eq_true rfl) ?_
  refine t_X11_areTwo hS ?_
  refine jw_mono (jw_bind h) (fun q1 h => ?_)
  show jx_Ex _ _ _ _ [.int q1.1] (jh (jSrd S rd) q1.2) _
  refine xo_56 (t := jm_b261_11) rfl (fun hc2 => ?_) (fun hc2 => ?_)
  · replace h := jw_pos hc2 h
    refine xo_2 rfl ?_
    refine xo_0 rfl ?_
    refine xo_49 (st' := []) rfl rfl (xm_ly (jSrd_ok hS rd) ly65) rfl (Nat.le_of_ble_eq_true rfl) ?_
    refine t_X11_isAtInn hS ?_
    refine jw_mono (jw_bind h) (fun q3 h => ?_)
    show jx_Ex _ _ _ _ [.int q3.1] (jh (jSrd S rd) q3.2) _
    refine xo_55 (t := jm_b261_52) rfl (fun hc4 => ?_) (fun hc4 => ?_)
    · replace h := jw_pos hc4 h
      refine xo_9 ?_
      replace h := jw_some h
      exact xo_69 h
    · replace h := jw_neg hc4 h
      refine xo_2 rfl ?_
      refine xo_0 rfl ?_
      refine xo_49 (st' := []) rfl rfl (xm_ly (jSrd_ok hS rd) ly65) rfl (Nat.le_of_ble_eq_true rfl) ?_
      refine t_X11_isAtInn hS ?_
      refine jw_mono (jw_bind h) (fun q5 h => ?_)
      show jx_Ex _ _ _ _ [.int q5.1] (jh (jSrd S rd) q5.2) _
      refine xo_55 (t := jm_b261_52) rfl (fun hc6 => ?_) (fun hc6 => ?_)
      · replace h := jw_pos hc6 h
        refine xo_9 ?_
        replace h := jw_some h
        exact xo_69 h
      · replace h := jw_neg hc6 h
        refine xo_2 rfl ?_
        refine xm_33 (i := 4160) (q := 66) (jSrd_ok hS rd) ly65 rfl (xm_P (jSrd_ok hS rd) (by decide)) ?_
        refine xo_9 ?_
        refine xo_0 rfl ?_
        refine xo_14 ?_
        obtain ⟨hi7, h⟩ := jw_chk h
        refine xm_38 (j := (10 + x1).toNatClampNeg) (v := (q5.2.2 66 (10 + x1).toNatClampNeg)) (jSrd_ok hS rd) ly66 ⟨Nat.le_of_ble_eq_true rfl, Nat.le_of_ble_eq_true rfl⟩ hi7 rfl rfl ?_
        refine xo_2 rfl ?_
        refine xm_33 (i := 4160) (q := 66) (jSrd_ok hS rd) ly65 rfl (xm_P (jSrd_ok hS rd) (by decide)) ?_
        refine xo_9 ?_
        refine xo_0 rfl ?_
        refine xo_14 ?_
        obtain ⟨hi8, h⟩ := jw_chk h
        refine xm_38 (j := (10 + x2).toNatClampNeg) (v := (q5.2.2 66 (10 + x2).toNatClampNeg)) (jSrd_ok hS rd) ly66 ⟨Nat.le_of_ble_eq_true rfl, Nat.le_of_ble_eq_true rfl⟩ hi8 rfl rfl ?_
        refine xo_62 (t := jm_b261_52) rfl (fun hc9 => ?_) (fun hc9 => ?_)
        · replace h := jw_pos hc9 h
          refine xo_9 ?_
          replace h := jw_some h
          exact xo_69 h
        · replace h := jw_neg hc9 h
          refine xo_8 ?_
          refine xo_54 (t := jm_b261_54) rfl ?_
          replace h := jw_some h
          exact xo_69 h
  · replace h := jw_neg hc2 h
    refine xo_8 ?_
    replace h := jw_some h
    exact xo_69 h
/-- OfDifferentMindsModel.goDeal, at ['m', 'int', 'int'] K -/
def f_X11_goDeal_b63 (k5 : Int32 → Int32 → Int32 → Int32 → jT → Option (Int32 × jT)) (x1 : Int32) (x2 : Int32) (x4 : Int32) (s0 : Int32) (s1 : Int32) (σ : jT) : Option (Int32 × jT) :=
  k5 x1 x2 (s1 + s0) (x4 + 1) σ
def f_X11_goDeal_b5 : Nat → Int32 → Int32 → Int32 → Int32 → jT → Option (Int32 × jT)
  | 0, _, _, _, _, _ => none
  | n + 1, x1, x2, x3, x4, σ =>
    if (σ.1 4161) ≤ x4 then
      if jx_in (22 + x1) 28 then
      if jx_in (22 + x2) 28 then
      some (x3, (gA (gA σ 66 (22 + x1).toNatClampNeg (σ.2 66 (22 + x2).toNatClampNeg)) 66 (22 + x2).toNatClampNeg (σ.2 66 (22 + x1).toNatClampNeg)))
      else none
      else none
    else
      if jx_in (22 + x1) 28 then
      if jx_in ((10 * (σ.2 66 (22 + x1).toNatClampNeg)) + x4) 60 then
      if jx_in (22 + x2) 28 then
      if jx_in ((10 * (σ.2 66 (22 + x2).toNatClampNeg)) + x4) 60 then
      if ¬ (σ.2 70 ((10 * (σ.2 66 (22 + x1).toNatClampNeg)) + x4).toNatClampNeg) = (σ.2 70 ((10 * (σ.2 66 (22 + x2).toNatClampNeg)) + x4).toNatClampNeg) then
        f_X11_goDeal_b63 (f_X11_goDeal_b5 n) x1 x2 x4 1 x3 σ
      else
        f_X11_goDeal_b63 (f_X11_goDeal_b5 n) x1 x2 x4 0 x3 σ
      else none
      else none
      else none
      else none
def f_X11_goDeal (x1 : Int32) (x2 : Int32) (σ : jT) : Option (Int32 × jT) :=
  f_X11_goDeal_b5 1000 x1 x2 0 0 σ
theorem t_X11_goDeal_b63 {S : jS} (hS : jMok S) {d : Nat} {Q : Option Value → jx_H → Prop} {rd : Value} {k5 : Int32 → Int32 → Int32 → Int32 → jT → Option (Int32 × jT)} (hk5 : ∀ {x1 : Int32} {x2 : Int32} {x3 : Int32} {x4 : Int32} {σ : jT}, jw (k5 x1 x2 x3 x4 σ) (fun q => Q (some (.int q.1)) (jh (jSrd S rd) q.2)) → jx_Ex (d) jm_l262 jm_b262_5 [.ref 65, .int x1, .int x2, .int x3, .int x4] [] (jh (jSrd S rd) σ) Q) {x1 : Int32} {x2 : Int32} {x4 : Int32} {s0 : Int32} {s1 : Int32} {w3 : Value} {σ : jT} (h : jw (f_X11_goDeal_b63 k5 x1 x2 x4 s0 s1 σ) (fun q => Q (some (.int q.1)) (jh (jSrd S rd) q.2))) : jx_Ex (d) jm_l262 jm_b262_63 [.ref 65, .int x1, .int x2, w3, .int x4] [.int s0, .int s1] (jh (jSrd S rd) σ) Q := by
  unfold f_X11_goDeal_b63 at h
  refine xo_14 ?_
  refine xo_4 (ls' := [.ref 65, .int x1, .int x2, .int (s1 + s0), .int x4]) rfl ?_
  refine xo_13 (ls' := [.ref 65, .int x1, .int x2, .int (s1 + s0), .int (x4 + 1)]) rfl rfl ?_
  refine xo_54 (t := jm_b262_5) rfl ?_
  exact hk5 h
theorem t_X11_goDeal_b5 {S : jS} (hS : jMok S) {d : Nat} {Q : Option Value → jx_H → Prop} {rd : Value} : ∀ (n : Nat) {x1 : Int32} {x2 : Int32} {x3 : Int32} {x4 : Int32} {σ : jT}, jw (f_X11_goDeal_b5 n x1 x2 x3 x4 σ) (fun q => Q (some (.int q.1)) (jh (jSrd S rd) q.2)) → jx_Ex (d) jm_l262 jm_b262_5 [.ref 65, .int x1, .int x2, .int x3, .int x4] [] (jh (jSrd S rd) σ) Q := by
  intro n
  induction n with
  | zero => intro x1 x2 x3 x4 σ h; exact jw_none h
  | succ n ih =>
    intro x1 x2 x3 x4 σ h
    rw [f_X11_goDeal_b5] at h
    refine xo_1 rfl ?_
    refine xo_2 rfl ?_
    refine xm_32 (i := 4161) (v := (σ.1 4161)) (jSrd_ok hS rd) ly65 rfl ⟨Nat.le_of_ble_eq_true rfl, Nat.le_of_ble_eq_true rfl⟩ rfl ?_
    refine xo_64 (t := jm_b262_71) rfl (fun hc1 => ?_) (fun hc1 => ?_)
    · replace h := jw_pos hc1 h
      refine xo_2 rfl ?_
      refine xm_33 (i := 4160) (q := 66) (jSrd_ok hS rd) ly65 rfl (xm_P (jSrd_ok hS rd) (by decide)) ?_
      refine xo_9 ?_
      refine xo_0 rfl ?_
      refine xo_14 ?_
      obtain ⟨hi2, h⟩ := jw_chk h
      refine xm_38 (j := (22 + x1).toNatClampNeg) (v := (σ.2 66 (22 + x1).toNatClampNeg)) (jSrd_ok hS rd) ly66 ⟨Nat.le_of_ble_eq_true rfl, Nat.le_of_ble_eq_true rfl⟩ hi2 rfl rfl ?_
      refine xo_5 (ls' := [.ref 65, .int x1, .int x2, .int x3, .int (σ.2 66 (22 + x1).toNatClampNeg)]) rfl ?_
      refine xo_2 rfl ?_
      refine xm_33 (i := 4160) (q := 66) (jSrd_ok hS rd) ly65 rfl (xm_P (jSrd_ok hS rd) (by decide)) ?_
      refine xo_9 ?_
      refine xo_0 rfl ?_
      refine xo_14 ?_
      refine xo_2 rfl ?_
      refine xm_33 (i := 4160) (q := 66) (jSrd_ok hS rd) ly65 rfl (xm_P (jSrd_ok hS rd) (by decide)) ?_
      refine xo_9 ?_
      refine xo_0 rfl ?_
      refine xo_14 ?_
      obtain ⟨hi3, h⟩ := jw_chk h
      refine xm_38 (j := (22 + x2).toNatClampNeg) (v := (σ.2 66 (22 + x2).toNatClampNeg)) (jSrd_ok hS rd) ly66 ⟨Nat.le_of_ble_eq_true rfl, Nat.le_of_ble_eq_true rfl⟩ hi3 rfl rfl ?_
      refine xm_41 (j := (22 + x1).toNatClampNeg) (jSrd_ok hS rd) ly66 ⟨Nat.le_of_ble_eq_true rfl, Nat.le_of_ble_eq_true rfl⟩ hi2 rfl ?_
      refine xo_2 rfl ?_
      refine xm_33 (i := 4160) (q := 66) (jSrd_ok hS rd) ly65 rfl (xm_P (jSrd_ok hS rd) (by decide)) ?_
      refine xo_9 ?_
      refine xo_0 rfl ?_
      refine xo_14 ?_
      refine xo_1 rfl ?_
      refine xm_41 (j := (22 + x2).toNatClampNeg) (jSrd_ok hS rd) ly66 ⟨Nat.le_of_ble_eq_true rfl, Nat.le_of_ble_eq_true rfl⟩ hi3 rfl ?_
      refine xo_0 rfl ?_
      replace h := jw_some h
      exact xo_69 h
    · replace h := jw_neg hc1 h
      refine xo_0 rfl ?_
      refine xo_2 rfl ?_
      refine xm_33 (i := 4167) (q := 70) (jSrd_ok hS rd) ly65 rfl (xm_P (jSrd_ok hS rd) (by decide)) ?_
      refine xo_9 ?_
      refine xo_2 rfl ?_
      refine xm_33 (i := 4160) (q := 66) (jSrd_ok hS rd) ly65 rfl (xm_P (jSrd_ok hS rd) (by decide)) ?_
      refine xo_9 ?_
      refine xo_0 rfl ?_
      refine xo_14 ?_
      obtain ⟨hi4, h⟩ := jw_chk h
      refine xm_38 (j := (22 + x1).toNatClampNeg) (v := (σ.2 66 (22 + x1).toNatClampNeg)) (jSrd_ok hS rd) ly66 ⟨Nat.le_of_ble_eq_true rfl, Nat.le_of_ble_eq_true rfl⟩ hi4 rfl rfl ?_
      refine xo_16 ?_
      refine xo_1 rfl ?_
      refine xo_14 ?_
      obtain ⟨hi5, h⟩ := jw_chk h
      refine xm_38 (j := ((10 * (σ.2 66 (22 + x1).toNatClampNeg)) + x4).toNatClampNeg) (v := (σ.2 70 ((10 * (σ.2 66 (22 + x1).toNatClampNeg)) + x4).toNatClampNeg)) (jSrd_ok hS rd) ly70 ⟨Nat.le_of_ble_eq_true rfl, Nat.le_of_ble_eq_true rfl⟩ hi5 rfl rfl ?_
      refine xo_2 rfl ?_
      refine xm_33 (i := 4167) (q := 70) (jSrd_ok hS rd) ly65 rfl (xm_P (jSrd_ok hS rd) (by decide)) ?_
      refine xo_9 ?_
      refine xo_2 rfl ?_
      refine xm_33 (i := 4160) (q := 66) (jSrd_ok hS rd) ly65 rfl (xm_P (jSrd_ok hS rd) (by decide)) ?_
      refine xo_9 ?_
      refine xo_0 rfl ?_
      refine xo_14 ?_
      obtain ⟨hi6, h⟩ := jw_chk h
      refine xm_38 (j := (22 + x2).toNatClampNeg) (v := (σ.2 66 (22 + x2).toNatClampNeg)) (jSrd_ok hS rd) ly66 ⟨Nat.le_of_ble_eq_true rfl, Nat.le_of_ble_eq_true rfl⟩ hi6 rfl rfl ?_
      refine xo_16 ?_
      refine xo_1 rfl ?_
      refine xo_14 ?_
      obtain ⟨hi7, h⟩ := jw_chk h
      refine xm_38 (j := ((10 * (σ.2 66 (22 + x2).toNatClampNeg)) + x4).toNatClampNeg) (v := (σ.2 70 ((10 * (σ.2 66 (22 + x2).toNatClampNeg)) + x4).toNatClampNeg)) (jSrd_ok hS rd) ly70 ⟨Nat.le_of_ble_eq_true rfl, Nat.le_of_ble_eq_true rfl⟩ hi7 rfl rfl ?_
      refine xo_62 (t := jm_b262_62) rfl (fun hc8 => ?_) (fun hc8 => ?_)
      · replace h := jw_pos hc8 h
        refine xo_8 ?_
        exact t_X11_goDeal_b63 hS ih h
      · replace h := jw_neg hc8 h
        refine xo_8 ?_
        refine xo_54 (t := jm_b262_63) rfl ?_
        exact t_X11_goDeal_b63 hS ih h
theorem t_X11_goDeal {S : jS} (hS : jMok S) {d : Nat} {Q : Option Value → jx_H → Prop} {rd : Value} {x1 : Int32} {x2 : Int32} {σ : jT} (h : jw (f_X11_goDeal x1 x2 σ) (fun q => Q (some (.int q.1)) (jh (jSrd S rd) q.2))) : jx_Sp (d) 262 [.ref 65, .int x1, .int x2] (jh (jSrd S rd) σ) Q := by
  refine ⟨jm_i262, jm_at262, rfl, rfl, ?_⟩
  show jx_Ex _ jm_l262 jm_b262_0 [.ref 65, .int x1, .int x2, .retAddr 0, .retAddr 0] [] _ _
  unfold f_X11_goDeal at h
  refine xo_8 ?_
  refine xo_4 (ls' := [.ref 65, .int x1, .int x2, .int 0, .retAddr 0]) rfl ?_
  refine xo_8 ?_
  refine xo_5 (ls' := [.ref 65, .int x1, .int x2, .int 0, .int 0]) rfl ?_
  exact t_X11_goDeal_b5 hS 1000 h
/-- OfDifferentMindsModel.deal, at ['m', 'int', 'int'] K -/
def f_X11_deal (x1 : Int32) (x2 : Int32) (σ : jT) : Option (Int32 × jT) :=
  (f_X11_refusesDeal x1 x2 (gs σ 4172 0)).bind fun q1 =>
  if 0 ≤ q1.1 then
    (f_X11_remember_66 q1.2).bind fun q3 =>
    (f_X11_goDeal x1 x2 q3.2).bind fun q4 =>
    some (q4.1, q4.2)
  else
    some (q1.1, q1.2)
theorem t_X11_deal {S : jS} (hS : jMok S) {d : Nat} {Q : Option Value → jx_H → Prop} {rd : Value} {x1 : Int32} {x2 : Int32} {σ : jT} (h : jw (f_X11_deal x1 x2 σ) (fun q => Q (some (.int q.1)) (jh (jSrd S rd) q.2))) : jx_Sp (d + 4) 263 [.ref 65, .int x1, .int x2] (jh (jSrd S rd) σ) Q := by
  refine ⟨jm_i263, jm_at263, rfl, rfl, ?_⟩
  show jx_Ex _ jm_l263 jm_b263_0 [.ref 65, .int x1, .int x2, .retAddr 0] [] _ _
  unfold f_X11_deal at h
  refine xo_2 rfl ?_
  refine xo_8 ?_
  refine xm_34 (i := 4172) (jSrd_ok hS rd) ly65 rfl ⟨Nat.le_of_ble_eq_true rfl, Nat.le_of_ble_eq_true rfl⟩ ?_
  refine xo_2 rfl ?_
  refine xo_0 rfl ?_
  refine xo_0 rfl ?_
  refine xo_49 (st' := []) rfl rfl (xm_ly (jSrd_ok hS rd) ly65) rfl (Nat.le_of_ble_eq_true rfl) ?_
  refine t_X11_refusesDeal hS ?_
  refine jw_mono (jw_bind h) (fun q1 h => ?_)
  show jx_Ex _ _ _ _ [.int q1.1] (jh (jSrd S rd) q1.2) _
  refine xo_4 (ls' := [.ref 65, .int x1, .int x2, .int q1.1]) rfl ?_
  refine xo_0 rfl ?_
  refine xo_58 (t := jm_b263_18) rfl (fun hc2 => ?_) (fun hc2 => ?_)
  · replace h := jw_pos hc2 h
    refine xo_2 rfl ?_
    refine xo_2 rfl ?_
    refine xm_33 (i := 4160) (q := 66) (jSrd_ok hS rd) ly65 rfl (xm_P (jSrd_ok hS rd) (by decide)) ?_
    refine xo_49 (st' := []) rfl rfl (xm_ly (jSrd_ok hS rd) ly65) rfl (Nat.le_of_ble_eq_true rfl) ?_
    refine t_X11_remember_66 hS ?_
    refine jw_mono (jw_bind h) (fun q3 h => ?_)
    show jx_Ex _ _ _ _ [] (jh (jSrd S rd) q3.2) _
    refine xo_2 rfl ?_
    refine xo_0 rfl ?_
    refine xo_0 rfl ?_
    refine xo_49 (st' := []) rfl rfl (xm_ly (jSrd_ok hS rd) ly65) rfl (Nat.le_of_ble_eq_true rfl) ?_
    refine t_X11_goDeal hS ?_
    refine jw_mono (jw_bind h) (fun q4 h => ?_)
    show jx_Ex _ _ _ _ [.int q4.1] (jh (jSrd S rd) q4.2) _
    replace h := jw_some h
    exact xo_69 h
  · replace h := jw_neg hc2 h
    refine xo_0 rfl ?_
    replace h := jw_some h
    exact xo_69 h
/-- OfDifferentMindsModel.act, at ['m', 'int', 'int', 'int'] U -/
def f_X11_act (x1 : Int32) (x2 : Int32) (x3 : Int32) (σ : jT) : Option (Int32 × jT) :=
  if x1 = 100 then
    (f_X11_isRidden σ).bind fun q2 =>
    if ¬ q2.1 = 0 then
      (f_X11_goDown q2.2).bind fun q4 =>
      some (1, q4.2)
    else
      some (0, q2.2)
  else
  if x1 = 108 then
    (f_X11_refusesLead x2 x3 σ).bind fun q6 =>
    if 0 ≤ q6.1 then
      (f_X11_goLead x2 x3 q6.2).bind fun q8 =>
      some (1, q8.2)
    else
      some (0, q6.2)
  else
  if x1 = 109 then
    (f_X11_refusesMount x2 x3 σ).bind fun q10 =>
    if 0 ≤ q10.1 then
      (f_X11_goMount x2 x3 q10.2).bind fun q12 =>
      some (1, q12.2)
    else
      some (0, q10.2)
  else
  if x1 = 114 then
    (f_X11_isRidden σ).bind fun q14 =>
    if ¬ q14.1 = 0 then
      (f_X11_goRide_66 x2 q14.2).bind fun q16 =>
      some (1, (gs q16.2 4193 ((q14.2.1 4193) + q16.1)))
    else
      some (0, q14.2)
  else
  if x1 = 119 then
    (f_X11_refusesWalk x2 x3 σ).bind fun q19 =>
    if 0 ≤ q19.1 then
      (f_X11_goWalk x2 x3 q19.2).bind fun q21 =>
      some (1, q21.2)
    else
      some (0, q19.2)
  else
  if x1 = 122 then
    (f_X11_refusesRest x2 σ).bind fun q23 =>
    if 0 ≤ q23.1 then
      (f_X11_goRest x2 q23.2).bind fun q25 =>
      some (1, q25.2)
    else
      some (0, q23.2)
  else
  (f_X11_refusesDeal x2 x3 σ).bind fun q26 =>
  if 0 ≤ q26.1 then
    (f_X11_goDeal x2 x3 q26.2).bind fun q28 =>
    some (1, q28.2)
  else
    some (0, q26.2)
theorem t_X11_act {S : jS} (hS : jMok S) {d : Nat} {Q : Option Value → jx_H → Prop} {rd : Value} {x1 : Int32} {x2 : Int32} {x3 : Int32} {σ : jT} (h : jw (f_X11_act x1 x2 x3 σ) (fun q => ∀ rd : Value, Q (some (.int q.1)) (jh (jSrd S rd) q.2))) : jx_Sp (d + 108) 266 [.ref 65, .int x1, .int x2, .int x3] (jh (jSrd S rd) σ) Q := by
  refine ⟨jm_i266, jm_at266, rfl, rfl, ?_⟩
  show jx_Ex _ jm_l266 jm_b266_0 [.ref 65, .int x1, .int x2, .int x3] [] _ _
  unfold f_X11_act at h
  refine xo_0 rfl ?_
  refine xo_68 ?_
  refine xo_swc (tb := jm_b266_79) rfl (fun hc1 => ?_) (fun hc1 => ?_)
  · replace h := jw_pos hc1 h
    refine xo_2 rfl ?_
    refine xo_49 (st' := []) rfl rfl (xm_ly (jSrd_ok hS rd) ly65) rfl (Nat.le_of_ble_eq_true rfl) ?_
    refine t_X11_isRidden hS ?_
    refine jw_mono (jw_bind h) (fun q2 h => ?_)
    show jx_Ex _ _ _ _ [.int q2.1] (jh (jSrd S rd) q2.2) _
    refine xo_56 (t := jm_b266_88) rfl (fun hc3 => ?_) (fun hc3 => ?_)
    · replace h := jw_pos hc3 h
      refine xo_2 rfl ?_
      refine xo_49 (st' := []) rfl rfl (xm_ly (jSrd_ok hS rd) ly65) rfl (Nat.le_of_ble_eq_true rfl) ?_
      refine t_X11_goDown hS ?_
      refine jw_mono (jw_bind h) (fun q4 h => ?_)
      show jx_Ex _ _ _ _ [] (jh (jSrd S rd) q4.2) _
      refine xo_8 ?_
      replace h := jw_some h
      exact xo_70 (by decide) (h rd)
    · replace h := jw_neg hc3 h
      refine xo_8 ?_
      replace h := jw_some h
      exact xo_70 (by decide) (h rd)
  replace h := jw_neg hc1 h
  refine xo_swc (tb := jm_b266_143) rfl (fun hc5 => ?_) (fun hc5 => ?_)
  · replace h := jw_pos hc5 h
    refine xo_2 rfl ?_
    refine xo_0 rfl ?_
    refine xo_0 rfl ?_
    refine xo_49 (st' := []) rfl rfl (xm_ly (jSrd_ok hS rd) ly65) rfl (Nat.le_of_ble_eq_true rfl) ?_
    refine t_X11_refusesLead hS ?_
    refine jw_mono (jw_bind h) (fun q6 h => ?_)
    show jx_Ex _ _ _ _ [.int q6.1] (jh (jSrd S rd) q6.2) _
    refine xo_58 (t := jm_b266_154) rfl (fun hc7 => ?_) (fun hc7 => ?_)
    · replace h := jw_pos hc7 h
      refine xo_2 rfl ?_
      refine xo_0 rfl ?_
      refine xo_0 rfl ?_
      refine xo_49 (st' := []) rfl rfl (xm_ly (jSrd_ok hS rd) ly65) rfl (Nat.le_of_ble_eq_true rfl) ?_
      refine t_X11_goLead hS ?_
      refine jw_mono (jw_bind h) (fun q8 h => ?_)
      show jx_Ex _ _ _ _ [.int q8.1] (jh (jSrd S rd) q8.2) _
      refine xo_31 ?_
      refine xo_8 ?_
      replace h := jw_some h
      exact xo_70 (by decide) (h rd)
    · replace h := jw_neg hc7 h
      refine xo_8 ?_
      replace h := jw_some h
      exact xo_70 (by decide) (h rd)
  replace h := jw_neg hc5 h
  refine xo_swc (tb := jm_b266_60) rfl (fun hc9 => ?_) (fun hc9 => ?_)
  · replace h := jw_pos hc9 h
    refine xo_2 rfl ?_
    refine xo_0 rfl ?_
    refine xo_0 rfl ?_
    refine xo_49 (st' := []) rfl rfl (xm_ly (jSrd_ok hS rd) ly65) rfl (Nat.le_of_ble_eq_true rfl) ?_
    refine t_X11_refusesMount hS ?_
    refine jw_mono (jw_bind h) (fun q10 h => ?_)
    show jx_Ex _ _ _ _ [.int q10.1] (jh (jSrd S rd) q10.2) _
    refine xo_58 (t := jm_b266_71) rfl (fun hc11 => ?_) (fun hc11 => ?_)
    · replace h := jw_pos hc11 h
      refine xo_2 rfl ?_
      refine xo_0 rfl ?_
      refine xo_0 rfl ?_
      refine xo_49 (st' := []) rfl rfl (xm_ly (jSrd_ok hS rd) ly65) rfl (Nat.le_of_ble_eq_true rfl) ?_
      refine t_X11_goMount hS ?_
      refine jw_mono (jw_bind h) (fun q12 h => ?_)
      show jx_Ex _ _ _ _ [] (jh (jSrd S rd) q12.2) _
      refine xo_8 ?_
      replace h := jw_some h
      exact xo_70 (by decide) (h rd)
    · replace h := jw_neg hc11 h
      refine xo_8 ?_
      replace h := jw_some h
      exact xo_70 (by decide) (h rd)
  replace h := jw_neg hc9 h
  refine xo_swc (tb := jm_b266_94) rfl (fun hc13 => ?_) (fun hc13 => ?_)
  · replace h := jw_pos hc13 h
    refine xo_2 rfl ?_
    refine xo_49 (st' := []) rfl rfl (xm_ly (jSrd_ok hS rd) ly65) rfl (Nat.le_of_ble_eq_true rfl) ?_
    refine t_X11_isRidden hS ?_
    refine jw_mono (jw_bind h) (fun q14 h => ?_)
    show jx_Ex _ _ _ _ [.int q14.1] (jh (jSrd S rd) q14.2) _
    refine xo_56 (t := jm_b266_103) rfl (fun hc15 => ?_) (fun hc15 => ?_)
    · replace h := jw_pos hc15 h
      refine xo_2 rfl ?_
      refine xo_28r ?_
      refine xm_32 (i := 4193) (v := (q14.2.1 4193)) (jSrd_ok hS rd) ly65 rfl ⟨Nat.le_of_ble_eq_true rfl, Nat.le_of_ble_eq_true rfl⟩ rfl ?_
      refine xo_2 rfl ?_
      refine xo_2 rfl ?_
      refine xm_33 (i := 4160) (q := 66) (jSrd_ok hS rd) ly65 rfl (xm_P (jSrd_ok hS rd) (by decide)) ?_
      refine xo_0 rfl ?_
      refine xo_49 (st' := [.int (q14.2.1 4193), .ref 65]) rfl rfl (xm_ly (jSrd_ok hS rd) ly65) rfl (Nat.le_of_ble_eq_true rfl) ?_
      refine t_X11_goRide_66 hS ?_
      refine jw_mono (jw_bind h) (fun q16 h rd17 => ?_)
      show jx_Ex _ _ _ _ [.int q16.1, .int (q14.2.1 4193), .ref 65] (jh (jSrd S rd17) q16.2) _
      refine xo_14 ?_
      refine xm_34 (i := 4193) (jSrd_ok hS rd17) ly65 rfl ⟨Nat.le_of_ble_eq_true rfl, Nat.le_of_ble_eq_true rfl⟩ ?_
      refine xo_8 ?_
      replace h := jw_some h
      exact xo_70 (by decide) (h rd17)
    · replace h := jw_neg hc15 h
      refine xo_8 ?_
      replace h := jw_some h
      exact xo_70 (by decide) (h rd)
  replace h := jw_neg hc13 h
  refine xo_swc (tb := jm_b266_123) rfl (fun hc18 => ?_) (fun hc18 => ?_)
  · replace h := jw_pos hc18 h
    refine xo_2 rfl ?_
    refine xo_0 rfl ?_
    refine xo_0 rfl ?_
    refine xo_49 (st' := []) rfl rfl (xm_ly (jSrd_ok hS rd) ly65) rfl (Nat.le_of_ble_eq_true rfl) ?_
    refine t_X11_refusesWalk hS ?_
    refine jw_mono (jw_bind h) (fun q19 h => ?_)
    show jx_Ex _ _ _ _ [.int q19.1] (jh (jSrd S rd) q19.2) _
    refine xo_58 (t := jm_b266_134) rfl (fun hc20 => ?_) (fun hc20 => ?_)
    · replace h := jw_pos hc20 h
      refine xo_2 rfl ?_
      refine xo_0 rfl ?_
      refine xo_0 rfl ?_
      refine xo_49 (st' := []) rfl rfl (xm_ly (jSrd_ok hS rd) ly65) rfl (Nat.le_of_ble_eq_true rfl) ?_
      refine t_X11_goWalk hS ?_
      refine jw_mono (jw_bind h) (fun q21 h => ?_)
      show jx_Ex _ _ _ _ [.int q21.1] (jh (jSrd S rd) q21.2) _
      refine xo_31 ?_
      refine xo_8 ?_
      replace h := jw_some h
      exact xo_70 (by decide) (h rd)
    · replace h := jw_neg hc20 h
      refine xo_8 ?_
      replace h := jw_some h
      exact xo_70 (by decide) (h rd)
  replace h := jw_neg hc18 h
  refine xo_swc (tb := jm_b266_163) rfl (fun hc22 => ?_) (fun hc22 => ?_)
  · replace h := jw_pos hc22 h
    refine xo_2 rfl ?_
    refine xo_0 rfl ?_
    refine xo_49 (st' := []) rfl rfl (xm_ly (jSrd_ok hS rd) ly65) rfl (Nat.le_of_ble_eq_true rfl) ?_
    refine t_X11_refusesRest hS ?_
    refine jw_mono (jw_bind h) (fun q23 h => ?_)
    show jx_Ex _ _ _ _ [.int q23.1] (jh (jSrd S rd) q23.2) _
    refine xo_58 (t := jm_b266_173) rfl (fun hc24 => ?_) (fun hc24 => ?_)
    · replace h := jw_pos hc24 h
      refine xo_2 rfl ?_
      refine xo_0 rfl ?_
      refine xo_49 (st' := []) rfl rfl (xm_ly (jSrd_ok hS rd) ly65) rfl (Nat.le_of_ble_eq_true rfl) ?_
      refine t_X11_goRest hS ?_
      refine jw_mono (jw_bind h) (fun q25 h => ?_)
      show jx_Ex _ _ _ _ [.int q25.1] (jh (jSrd S rd) q25.2) _
      refine xo_31 ?_
      refine xo_8 ?_
      replace h := jw_some h
      exact xo_70 (by decide) (h rd)
    · replace h := jw_neg hc24 h
      refine xo_8 ?_
      replace h := jw_some h
      exact xo_70 (by decide) (h rd)
  replace h := jw_neg hc22 h
  refine xo_swn (tb := jm_b266_181) rfl ?_
  refine xo_2 rfl ?_
  refine xo_0 rfl ?_
  refine xo_0 rfl ?_
  refine xo_49 (st' := []) rfl rfl (xm_ly (jSrd_ok hS rd) ly65) rfl (Nat.le_of_ble_eq_true rfl) ?_
  refine t_X11_refusesDeal hS ?_
  refine jw_mono (jw_bind h) (fun q26 h => ?_)
  show jx_Ex _ _ _ _ [.int q26.1] (jh (jSrd S rd) q26.2) _
  refine xo_58 (t := jm_b266_192) rfl (fun hc27 => ?_) (fun hc27 => ?_)
  · replace h := jw_pos hc27 h
    refine xo_2 rfl ?_
    refine xo_0 rfl ?_
    refine xo_0 rfl ?_
    refine xo_49 (st' := []) rfl rfl (xm_ly (jSrd_ok hS rd) ly65) rfl (Nat.le_of_ble_eq_true rfl) ?_
    refine t_X11_goDeal hS ?_
    refine jw_mono (jw_bind h) (fun q28 h => ?_)
    show jx_Ex _ _ _ _ [.int q28.1] (jh (jSrd S rd) q28.2) _
    refine xo_31 ?_
    refine xo_8 ?_
    replace h := jw_some h
    exact xo_70 (by decide) (h rd)
  · replace h := jw_neg hc27 h
    refine xo_8 ?_
    replace h := jw_some h
    exact xo_70 (by decide) (h rd)
/-- OfDifferentMindsModel.readAct, at ['m', 'int'] T -/
def f_X11_readAct_T_b139 (x1 : Int32) (σ : jT) : Option (Int32 × jT) :=
  (f_X11_digit_T 0 9 σ).bind fun q1 =>
  if jx_in (x1 + 2) 240 then
  some (0, (gA q1.2 81 (x1 + 2).toNatClampNeg q1.1))
  else none
def f_X11_readAct_T_b115 (x1 : Int32) (x2 : Int32) (σ : jT) : Option (Int32 × jT) :=
  if x2 = 109 then
    f_X11_readAct_T_b139 x1 σ
  else
    if x2 = 119 then
      f_X11_readAct_T_b139 x1 σ
    else
      if x2 = 108 then
        f_X11_readAct_T_b139 x1 σ
      else
        if ¬ x2 = 120 then
          some (0, σ)
        else
          f_X11_readAct_T_b139 x1 σ
def f_X11_readAct_T_b55 (x1 : Int32) (x2 : Int32) (σ : jT) : Option (Int32 × jT) :=
  if jx_in x1 240 then
  if ¬ x2 = 114 then
    if x2 = 100 then
      f_X11_readAct_T_b115 x1 x2 (gA (gs σ 4176 ((σ.1 4176) + 1)) 81 x1.toNatClampNeg x2)
    else
      (f_X11_digit_T 0 9 (gA (gs σ 4176 ((σ.1 4176) + 1)) 81 x1.toNatClampNeg x2)).bind fun q4 =>
      if jx_in (x1 + 1) 240 then
      f_X11_readAct_T_b115 x1 x2 (gA q4.2 81 (x1 + 1).toNatClampNeg q4.1)
      else none
  else
    (f_X11_number_T 2 (gA (gs σ 4176 ((σ.1 4176) + 1)) 81 x1.toNatClampNeg x2)).bind fun q6 =>
    if jx_in (x1 + 1) 240 then
    f_X11_readAct_T_b115 x1 x2 (gA q6.2 81 (x1 + 1).toNatClampNeg q6.1)
    else none
  else none
def f_X11_readAct_T (x1 : Int32) (σ : jT) : Option (Int32 × jT) :=
  (f_X11_here_T σ).bind fun q1 =>
  if q1.1 = 109 then
    f_X11_readAct_T_b55 x1 q1.1 q1.2
  else
    if q1.1 = 100 then
      f_X11_readAct_T_b55 x1 q1.1 q1.2
    else
      if q1.1 = 114 then
        f_X11_readAct_T_b55 x1 q1.1 q1.2
      else
        if q1.1 = 119 then
          f_X11_readAct_T_b55 x1 q1.1 q1.2
        else
          if q1.1 = 108 then
            f_X11_readAct_T_b55 x1 q1.1 q1.2
          else
            if q1.1 = 122 then
              f_X11_readAct_T_b55 x1 q1.1 q1.2
            else
              if q1.1 = 120 then
                f_X11_readAct_T_b55 x1 q1.1 q1.2
              else
                (f_X11_fault (q1.2.1 4176) q1.2).bind fun q9 =>
                f_X11_readAct_T_b55 x1 q1.1 q9.2
theorem t_X11_readAct_T_b139 {S : jS} (hS : jMok S) {d : Nat} {Q : Option Value → jx_H → Prop} {x1 : Int32} {w2 : Value} {σ : jT} (h : jw (f_X11_readAct_T_b139 x1 σ) (fun q => Q none (jh (jSrd S (.ref 71)) q.2))) : jx_Ex (d + 4) jm_l265 jm_b265_139 [.ref 65, .int x1, w2] [] (jh (jSrd S (.ref 71)) σ) Q := by
  unfold f_X11_readAct_T_b139 at h
  refine xo_2 rfl ?_
  refine xm_33 (i := 4192) (q := 81) (jSrd_ok hS (.ref 71)) ly65 rfl (xm_P (jSrd_ok hS (.ref 71)) (by decide)) ?_
  refine xo_0 rfl ?_
  refine xo_8 ?_
  refine xo_14 ?_
  refine xo_2 rfl ?_
  refine xo_8 ?_
  refine xo_9 ?_
  refine xo_49 (st' := [.int (x1 + 2), .ref 81]) rfl rfl (xm_ly (jSrd_ok hS (.ref 71)) ly65) rfl (Nat.le_of_ble_eq_true rfl) ?_
  refine t_X11_digit_T hS ?_
  refine jw_mono (jw_bind h) (fun q1 h => ?_)
  show jx_Ex _ _ _ _ [.int q1.1, .int (x1 + 2), .ref 81] (jh (jSrd S (.ref 71)) q1.2) _
  obtain ⟨hi2, h⟩ := jw_chk h
  refine xm_41 (j := (x1 + 2).toNatClampNeg) (jSrd_ok hS (.ref 71)) ly81 ⟨Nat.le_of_ble_eq_true rfl, Nat.le_of_ble_eq_true rfl⟩ hi2 rfl ?_
  replace h := jw_some h
  exact xo_71 h
theorem t_X11_readAct_T_b115 {S : jS} (hS : jMok S) {d : Nat} {Q : Option Value → jx_H → Prop} {x1 : Int32} {x2 : Int32} {σ : jT} (h : jw (f_X11_readAct_T_b115 x1 x2 σ) (fun q => Q none (jh (jSrd S (.ref 71)) q.2))) : jx_Ex (d + 4) jm_l265 jm_b265_115 [.ref 65, .int x1, .int x2] [] (jh (jSrd S (.ref 71)) σ) Q := by
  unfold f_X11_readAct_T_b115 at h
  refine xo_0 rfl ?_
  refine xo_9 ?_
  refine xo_61 (t := jm_b265_139) rfl (fun hc1 => ?_) (fun hc1 => ?_)
  · replace h := jw_pos hc1 h
    exact t_X11_readAct_T_b139 hS h
  · replace h := jw_neg hc1 h
    refine xo_0 rfl ?_
    refine xo_9 ?_
    refine xo_61 (t := jm_b265_139) rfl (fun hc2 => ?_) (fun hc2 => ?_)
    · replace h := jw_pos hc2 h
      exact t_X11_readAct_T_b139 hS h
    · replace h := jw_neg hc2 h
      refine xo_0 rfl ?_
      refine xo_9 ?_
      refine xo_61 (t := jm_b265_139) rfl (fun hc3 => ?_) (fun hc3 => ?_)
      · replace h := jw_pos hc3 h
        exact t_X11_readAct_T_b139 hS h
      · replace h := jw_neg hc3 h
        refine xo_0 rfl ?_
        refine xo_9 ?_
        refine xo_62 (t := jm_b265_154) rfl (fun hc4 => ?_) (fun hc4 => ?_)
        · replace h := jw_pos hc4 h
          replace h := jw_some h
          exact xo_71 h
        · replace h := jw_neg hc4 h
          exact t_X11_readAct_T_b139 hS h
theorem t_X11_readAct_T_b55 {S : jS} (hS : jMok S) {d : Nat} {Q : Option Value → jx_H → Prop} {x1 : Int32} {x2 : Int32} {σ : jT} (h : jw (f_X11_readAct_T_b55 x1 x2 σ) (fun q => Q none (jh (jSrd S (.ref 71)) q.2))) : jx_Ex (d + 4) jm_l265 jm_b265_55 [.ref 65, .int x1, .int x2] [] (jh (jSrd S (.ref 71)) σ) Q := by
  unfold f_X11_readAct_T_b55 at h
  refine xo_2 rfl ?_
  refine xo_28r ?_
  refine xm_32 (i := 4176) (v := (σ.1 4176)) (jSrd_ok hS (.ref 71)) ly65 rfl ⟨Nat.le_of_ble_eq_true rfl, Nat.le_of_ble_eq_true rfl⟩ rfl ?_
  refine xo_8 ?_
  refine xo_14 ?_
  refine xm_34 (i := 4176) (jSrd_ok hS (.ref 71)) ly65 rfl ⟨Nat.le_of_ble_eq_true rfl, Nat.le_of_ble_eq_true rfl⟩ ?_
  refine xo_2 rfl ?_
  refine xm_33 (i := 4192) (q := 81) (jSrd_ok hS (.ref 71)) ly65 rfl (xm_P (jSrd_ok hS (.ref 71)) (by decide)) ?_
  refine xo_0 rfl ?_
  refine xo_0 rfl ?_
  obtain ⟨hi1, h⟩ := jw_chk h
  refine xm_41 (j := x1.toNatClampNeg) (jSrd_ok hS (.ref 71)) ly81 ⟨Nat.le_of_ble_eq_true rfl, Nat.le_of_ble_eq_true rfl⟩ hi1 rfl ?_
  refine xo_0 rfl ?_
  refine xo_9 ?_
  refine xo_62 (t := jm_b265_94) rfl (fun hc2 => ?_) (fun hc2 => ?_)
  · replace h := jw_pos hc2 h
    refine xo_0 rfl ?_
    refine xo_9 ?_
    refine xo_61 (t := jm_b265_115) rfl (fun hc3 => ?_) (fun hc3 => ?_)
    · replace h := jw_pos hc3 h
      exact t_X11_readAct_T_b115 hS h
    · replace h := jw_neg hc3 h
      refine xo_2 rfl ?_
      refine xm_33 (i := 4192) (q := 81) (jSrd_ok hS (.ref 71)) ly65 rfl (xm_P (jSrd_ok hS (.ref 71)) (by decide)) ?_
      refine xo_0 rfl ?_
      refine xo_8 ?_
      refine xo_14 ?_
      refine xo_2 rfl ?_
      refine xo_8 ?_
      refine xo_9 ?_
      refine xo_49 (st' := [.int (x1 + 1), .ref 81]) rfl rfl (xm_ly (jSrd_ok hS (.ref 71)) ly65) rfl (Nat.le_of_ble_eq_true rfl) ?_
      refine t_X11_digit_T hS ?_
      refine jw_mono (jw_bind h) (fun q4 h => ?_)
      show jx_Ex _ _ _ _ [.int q4.1, .int (x1 + 1), .ref 81] (jh (jSrd S (.ref 71)) q4.2) _
      obtain ⟨hi5, h⟩ := jw_chk h
      refine xm_41 (j := (x1 + 1).toNatClampNeg) (jSrd_ok hS (.ref 71)) ly81 ⟨Nat.le_of_ble_eq_true rfl, Nat.le_of_ble_eq_true rfl⟩ hi5 rfl ?_
      exact t_X11_readAct_T_b115 hS h
  · replace h := jw_neg hc2 h
    refine xo_2 rfl ?_
    refine xm_33 (i := 4192) (q := 81) (jSrd_ok hS (.ref 71)) ly65 rfl (xm_P (jSrd_ok hS (.ref 71)) (by decide)) ?_
    refine xo_0 rfl ?_
    refine xo_8 ?_
    refine xo_14 ?_
    refine xo_2 rfl ?_
    refine xo_8 ?_
    refine xo_49 (st' := [.int (x1 + 1), .ref 81]) rfl rfl (xm_ly (jSrd_ok hS (.ref 71)) ly65) rfl (Nat.le_of_ble_eq_true rfl) ?_
    refine t_X11_number_T hS ?_
    refine jw_mono (jw_bind h) (fun q6 h => ?_)
    show jx_Ex _ _ _ _ [.int q6.1, .int (x1 + 1), .ref 81] (jh (jSrd S (.ref 71)) q6.2) _
    obtain ⟨hi7, h⟩ := jw_chk h
    refine xm_41 (j := (x1 + 1).toNatClampNeg) (jSrd_ok hS (.ref 71)) ly81 ⟨Nat.le_of_ble_eq_true rfl, Nat.le_of_ble_eq_true rfl⟩ hi7 rfl ?_
    refine xo_54 (t := jm_b265_115) rfl ?_
    exact t_X11_readAct_T_b115 hS h
theorem t_X11_readAct_T {S : jS} (hS : jMok S) {d : Nat} {Q : Option Value → jx_H → Prop} {x1 : Int32} {σ : jT} (h : jw (f_X11_readAct_T x1 σ) (fun q => Q none (jh (jSrd S (.ref 71)) q.2))) : jx_Sp (d + 4) 265 [.ref 65, .int x1] (jh (jSrd S (.ref 71)) σ) Q := by
  refine ⟨jm_i265, jm_at265, rfl, rfl, ?_⟩
  show jx_Ex _ jm_l265 jm_b265_0 [.ref 65, .int x1, .retAddr 0] [] _ _
  unfold f_X11_readAct_T at h
  refine xo_2 rfl ?_
  refine xo_49 (st' := []) rfl rfl (xm_ly (jSrd_ok hS (.ref 71)) ly65) rfl (Nat.le_of_ble_eq_true rfl) ?_
  refine t_X11_here_T hS ?_
  refine jw_mono (jw_bind h) (fun q1 h => ?_)
  show jx_Ex _ _ _ _ [.int q1.1] (jh (jSrd S (.ref 71)) q1.2) _
  refine xo_4 (ls' := [.ref 65, .int x1, .int q1.1]) rfl ?_
  refine xo_0 rfl ?_
  refine xo_9 ?_
  refine xo_61 (t := jm_b265_55) rfl (fun hc2 => ?_) (fun hc2 => ?_)
  · replace h := jw_pos hc2 h
    exact t_X11_readAct_T_b55 hS h
  · replace h := jw_neg hc2 h
    refine xo_0 rfl ?_
    refine xo_9 ?_
    refine xo_61 (t := jm_b265_55) rfl (fun hc3 => ?_) (fun hc3 => ?_)
    · replace h := jw_pos hc3 h
      exact t_X11_readAct_T_b55 hS h
    · replace h := jw_neg hc3 h
      refine xo_0 rfl ?_
      refine xo_9 ?_
      refine xo_61 (t := jm_b265_55) rfl (fun hc4 => ?_) (fun hc4 => ?_)
      · replace h := jw_pos hc4 h
        exact t_X11_readAct_T_b55 hS h
      · replace h := jw_neg hc4 h
        refine xo_0 rfl ?_
        refine xo_9 ?_
        refine xo_61 (t := jm_b265_55) rfl (fun hc5 => ?_) (fun hc5 => ?_)
        · replace h := jw_pos hc5 h
          exact t_X11_readAct_T_b55 hS h
        · replace h := jw_neg hc5 h
          refine xo_0 rfl ?_
          refine xo_9 ?_
          refine xo_61 (t := jm_b265_55) rfl (fun hc6 => ?_) (fun hc6 => ?_)
          · replace h := jw_pos hc6 h
            exact t_X11_readAct_T_b55 hS h
          · replace h := jw_neg hc6 h
            refine xo_0 rfl ?_
            refine xo_9 ?_
            refine xo_61 (t := jm_b265_55) rfl (fun hc7 => ?_) (fun hc7 => ?_)
            · replace h := jw_pos hc7 h
              exact t_X11_readAct_T_b55 hS h
            · replace h := jw_neg hc7 h
              refine xo_0 rfl ?_
              refine xo_9 ?_
              refine xo_61 (t := jm_b265_55) rfl (fun hc8 => ?_) (fun hc8 => ?_)
              · replace h := jw_pos hc8 h
                exact t_X11_readAct_T_b55 hS h
              · replace h := jw_neg hc8 h
                refine xo_2 rfl ?_
                refine xo_2 rfl ?_
                refine xm_32 (i := 4176) (v := (q1.2.1 4176)) (jSrd_ok hS (.ref 71)) ly65 rfl ⟨Nat.le_of_ble_eq_true rfl, Nat.le_of_ble_eq_true rfl⟩ rfl ?_
                refine xo_49 (st' := []) rfl rfl (xm_ly (jSrd_ok hS (.ref 71)) ly65) rfl (Nat.le_of_ble_eq_true rfl) ?_
                refine t_X11_fault hS ?_
                refine jw_mono (jw_bind h) (fun q9 h => ?_)
                show jx_Ex _ _ _ _ [] (jh (jSrd S (.ref 71)) q9.2) _
                exact t_X11_readAct_T_b55 hS h
/-- OfDifferentMindsModel.journey, at ['m'] U -/
def f_X11_journey_b196 (x3 : Int32) (s0 : Int32) (σ : jT) : Option (Int32 × jT) :=
  (f_X11_tell s0 σ).bind fun q1 =>
  (f_X11_tell (q1.2.1 4193) q1.2).bind fun q2 =>
  some (x3, q2.2)
def f_X11_journey_b180 (x1 : Int32) (x3 : Int32) (σ : jT) : Option (Int32 × jT) :=
  if x1 ≤ x3 then
    f_X11_journey_b196 x3 0 (gs σ 4171 0)
  else
    f_X11_journey_b196 x3 1 (gs σ 4171 0)
def f_X11_journey_b168 (x1 : Int32) (x3 : Int32) (σ : jT) : Option (Int32 × jT) :=
  if x3 ≤ 0 then
    f_X11_journey_b180 x1 x3 σ
  else
    (f_X11_remember_80 σ).bind fun q2 =>
    f_X11_journey_b180 x1 x3 q2.2
def f_X11_journey_b122 : Nat → Int32 → Int32 → jT → Option (Int32 × jT)
  | 0, _, _, _ => none
  | n + 1, x1, x3, σ =>
    if x1 ≤ x3 then
      f_X11_journey_b168 x1 x3 σ
    else
      if jx_in (3 * x3) 240 then
      if jx_in ((3 * x3) + 1) 240 then
      if jx_in ((3 * x3) + 2) 240 then
      (f_X11_act (σ.2 81 (3 * x3).toNatClampNeg) (σ.2 81 ((3 * x3) + 1).toNatClampNeg) (σ.2 81 ((3 * x3) + 2).toNatClampNeg) σ).bind fun q5 =>
      if q5.1 = 0 then
        f_X11_journey_b168 x1 x3 q5.2
      else
        f_X11_journey_b122 n x1 (x3 + 1) q5.2
      else none
      else none
      else none
def f_X11_journey_b89 (x1 : Int32) (σ : jT) : Option (Int32 × jT) :=
  (f_X11_fine σ).bind fun q1 =>
  if ¬ q1.1 = 0 then
    (f_X11_lay_66_80 0 q1.2).bind fun q3 =>
    f_X11_journey_b122 1000 x1 0 (gs q3.2 4193 0)
  else
    some (((-1) - (q1.2.1 4177)), q1.2)
def f_X11_journey_b70 (x1 : Int32) (σ : jT) : Option (Int32 × jT) :=
  if (σ.1 4174) ≤ (σ.1 4176) then
    f_X11_journey_b89 x1 σ
  else
    (f_X11_fault (σ.1 4176) σ).bind fun q2 =>
    f_X11_journey_b89 x1 q2.2
def f_X11_journey_b39 : Nat → Int32 → Int32 → jT → Option (Int32 × jT)
  | 0, _, _, _ => none
  | n + 1, x1, x2, σ =>
    if x2 = 0 then
      f_X11_journey_b70 x1 σ
    else
      (f_X11_fine σ).bind fun q2 =>
      if q2.1 = 0 then
        f_X11_journey_b70 x1 q2.2
      else
        (f_X11_readAct_T (3 * x1) q2.2).bind fun q4 =>
        (f_X11_passes_T 59 q4.2).bind fun q5 =>
        f_X11_journey_b39 n (x1 + 1) q5.1 q5.2
def f_X11_journey_b38 (x1 : Int32) (s0 : Int32) (σ : jT) : Option (Int32 × jT) :=
  f_X11_journey_b39 1000 x1 s0 σ
def f_X11_journey (σ : jT) : Option (Int32 × jT) :=
  (f_X11_begin_71 (σ.1 4169) 60 (gs σ 4172 0)).bind fun q1 =>
  if (q1.2.1 4174) ≤ 0 then
    f_X11_journey_b38 0 0 (gs q1.2 4169 0)
  else
    f_X11_journey_b38 0 1 (gs q1.2 4169 0)
theorem t_X11_journey_b196 {S : jS} (hS : jMok S) {d : Nat} {Q : Option Value → jx_H → Prop} {rd : Value} {x3 : Int32} {s0 : Int32} {w1 : Value} {w2 : Value} {σ : jT} (h : jw (f_X11_journey_b196 x3 s0 σ) (fun q => ∀ rd : Value, Q (some (.int q.1)) (jh (jSrd S rd) q.2))) : jx_Ex (d + 109) jm_l264 jm_b264_196 [.ref 65, w1, w2, .int x3] [.int s0, .ref 65] (jh (jSrd S rd) σ) Q := by
  unfold f_X11_journey_b196 at h
  refine xo_49 (st' := []) rfl rfl (xm_ly (jSrd_ok hS rd) ly65) rfl (Nat.le_of_ble_eq_true rfl) ?_
  refine t_X11_tell hS ?_
  refine jw_mono (jw_bind h) (fun q1 h => ?_)
  show jx_Ex _ _ _ _ [] (jh (jSrd S rd) q1.2) _
  refine xo_2 rfl ?_
  refine xo_2 rfl ?_
  refine xm_32 (i := 4193) (v := (q1.2.1 4193)) (jSrd_ok hS rd) ly65 rfl ⟨Nat.le_of_ble_eq_true rfl, Nat.le_of_ble_eq_true rfl⟩ rfl ?_
  refine xo_49 (st' := []) rfl rfl (xm_ly (jSrd_ok hS rd) ly65) rfl (Nat.le_of_ble_eq_true rfl) ?_
  refine t_X11_tell hS ?_
  refine jw_mono (jw_bind h) (fun q2 h => ?_)
  show jx_Ex _ _ _ _ [] (jh (jSrd S rd) q2.2) _
  refine xo_0 rfl ?_
  replace h := jw_some h
  exact xo_69 (h rd)
theorem t_X11_journey_b180 {S : jS} (hS : jMok S) {d : Nat} {Q : Option Value → jx_H → Prop} {rd : Value} {x1 : Int32} {x3 : Int32} {w2 : Value} {σ : jT} (h : jw (f_X11_journey_b180 x1 x3 σ) (fun q => ∀ rd : Value, Q (some (.int q.1)) (jh (jSrd S rd) q.2))) : jx_Ex (d + 109) jm_l264 jm_b264_180 [.ref 65, .int x1, w2, .int x3] [] (jh (jSrd S rd) σ) Q := by
  unfold f_X11_journey_b180 at h
  refine xo_2 rfl ?_
  refine xo_8 ?_
  refine xm_34 (i := 4171) (jSrd_ok hS rd) ly65 rfl ⟨Nat.le_of_ble_eq_true rfl, Nat.le_of_ble_eq_true rfl⟩ ?_
  refine xo_2 rfl ?_
  refine xo_0 rfl ?_
  refine xo_0 rfl ?_
  refine xo_64 (t := jm_b264_195) rfl (fun hc1 => ?_) (fun hc1 => ?_)
  · replace h := jw_pos hc1 h
    refine xo_8 ?_
    exact t_X11_journey_b196 hS h
  · replace h := jw_neg hc1 h
    refine xo_8 ?_
    refine xo_54 (t := jm_b264_196) rfl ?_
    exact t_X11_journey_b196 hS h
theorem t_X11_journey_b168 {S : jS} (hS : jMok S) {d : Nat} {Q : Option Value → jx_H → Prop} {rd : Value} {x1 : Int32} {x3 : Int32} {w2 : Value} {σ : jT} (h : jw (f_X11_journey_b168 x1 x3 σ) (fun q => ∀ rd : Value, Q (some (.int q.1)) (jh (jSrd S rd) q.2))) : jx_Ex (d + 109) jm_l264 jm_b264_168 [.ref 65, .int x1, w2, .int x3] [] (jh (jSrd S rd) σ) Q := by
  unfold f_X11_journey_b168 at h
  refine xo_0 rfl ?_
  refine xo_60 (t := jm_b264_180) rfl (fun hc1 => ?_) (fun hc1 => ?_)
  · replace h := jw_pos hc1 h
    exact t_X11_journey_b180 hS h
  · replace h := jw_neg hc1 h
    refine xo_2 rfl ?_
    refine xo_2 rfl ?_
    refine xm_33 (i := 4190) (q := 80) (jSrd_ok hS rd) ly65 rfl (xm_P (jSrd_ok hS rd) (by decide)) ?_
    refine xo_49 (st' := []) rfl rfl (xm_ly (jSrd_ok hS rd) ly65) rfl (Nat.le_of_ble_eq_true rfl) ?_
    refine t_X11_remember_80 hS ?_
    refine jw_mono (jw_bind h) (fun q2 h => ?_)
    show jx_Ex _ _ _ _ [] (jh (jSrd S rd) q2.2) _
    exact t_X11_journey_b180 hS h
theorem t_X11_journey_b122 {S : jS} (hS : jMok S) {d : Nat} {Q : Option Value → jx_H → Prop} : ∀ (n : Nat) {rd : Value} {x1 : Int32} {x3 : Int32} {w2 : Value} {σ : jT}, jw (f_X11_journey_b122 n x1 x3 σ) (fun q => ∀ rd : Value, Q (some (.int q.1)) (jh (jSrd S rd) q.2)) → jx_Ex (d + 109) jm_l264 jm_b264_122 [.ref 65, .int x1, w2, .int x3] [] (jh (jSrd S rd) σ) Q := by
  intro n
  induction n with
  | zero => intro rd x1 x3 w2 σ h; exact jw_none h
  | succ n ih =>
    intro rd x1 x3 w2 σ h
    rw [f_X11_journey_b122] at h
    refine xo_0 rfl ?_
    refine xo_0 rfl ?_
    refine xo_64 (t := jm_b264_168) rfl (fun hc1 => ?_) (fun hc1 => ?_)
    · replace h := jw_pos hc1 h
      exact t_X11_journey_b168 hS h
    · replace h := jw_neg hc1 h
      refine xo_2 rfl ?_
      refine xo_2 rfl ?_
      refine xm_33 (i := 4192) (q := 81) (jSrd_ok hS rd) ly65 rfl (xm_P (jSrd_ok hS rd) (by decide)) ?_
      refine xo_8 ?_
      refine xo_0 rfl ?_
      refine xo_16 ?_
      obtain ⟨hi2, h⟩ := jw_chk h
      refine xm_38 (j := (3 * x3).toNatClampNeg) (v := (σ.2 81 (3 * x3).toNatClampNeg)) (jSrd_ok hS rd) ly81 ⟨Nat.le_of_ble_eq_true rfl, Nat.le_of_ble_eq_true rfl⟩ hi2 rfl rfl ?_
      refine xo_2 rfl ?_
      refine xm_33 (i := 4192) (q := 81) (jSrd_ok hS rd) ly65 rfl (xm_P (jSrd_ok hS rd) (by decide)) ?_
      refine xo_8 ?_
      refine xo_0 rfl ?_
      refine xo_16 ?_
      refine xo_8 ?_
      refine xo_14 ?_
      obtain ⟨hi3, h⟩ := jw_chk h
      refine xm_38 (j := ((3 * x3) + 1).toNatClampNeg) (v := (σ.2 81 ((3 * x3) + 1).toNatClampNeg)) (jSrd_ok hS rd) ly81 ⟨Nat.le_of_ble_eq_true rfl, Nat.le_of_ble_eq_true rfl⟩ hi3 rfl rfl ?_
      refine xo_2 rfl ?_
      refine xm_33 (i := 4192) (q := 81) (jSrd_ok hS rd) ly65 rfl (xm_P (jSrd_ok hS rd) (by decide)) ?_
      refine xo_8 ?_
      refine xo_0 rfl ?_
      refine xo_16 ?_
      refine xo_8 ?_
      refine xo_14 ?_
      obtain ⟨hi4, h⟩ := jw_chk h
      refine xm_38 (j := ((3 * x3) + 2).toNatClampNeg) (v := (σ.2 81 ((3 * x3) + 2).toNatClampNeg)) (jSrd_ok hS rd) ly81 ⟨Nat.le_of_ble_eq_true rfl, Nat.le_of_ble_eq_true rfl⟩ hi4 rfl rfl ?_
      refine xo_49 (st' := []) rfl rfl (xm_ly (jSrd_ok hS rd) ly65) rfl (Nat.le_of_ble_eq_true rfl) ?_
      refine t_X11_act hS ?_
      refine jw_mono (jw_bind h) (fun q5 h rd6 => ?_)
      show jx_Ex _ _ _ _ [.int q5.1] (jh (jSrd S rd6) q5.2) _
      refine xo_55 (t := jm_b264_168) rfl (fun hc7 => ?_) (fun hc7 => ?_)
      · replace h := jw_pos hc7 h
        exact t_X11_journey_b168 hS h
      · replace h := jw_neg hc7 h
        refine xo_13 (ls' := [.ref 65, .int x1, w2, .int (x3 + 1)]) rfl rfl ?_
        refine xo_54 (t := jm_b264_122) rfl ?_
        exact ih h
theorem t_X11_journey_b89 {S : jS} (hS : jMok S) {d : Nat} {Q : Option Value → jx_H → Prop} {x1 : Int32} {w2 : Value} {w3 : Value} {σ : jT} (h : jw (f_X11_journey_b89 x1 σ) (fun q => ∀ rd : Value, Q (some (.int q.1)) (jh (jSrd S rd) q.2))) : jx_Ex (d + 109) jm_l264 jm_b264_89 [.ref 65, .int x1, w2, w3] [] (jh (jSrd S (.ref 71)) σ) Q := by
  unfold f_X11_journey_b89 at h
  refine xo_2 rfl ?_
  refine xo_49 (st' := []) rfl rfl (xm_ly (jSrd_ok hS (.ref 71)) ly65) rfl (Nat.le_of_ble_eq_true rfl) ?_
  refine t_X11_fine hS ?_
  refine jw_mono (jw_bind h) (fun q1 h => ?_)
  show jx_Ex _ _ _ _ [.int q1.1] (jh (jSrd S (.ref 71)) q1.2) _
  refine xo_56 (t := jm_b264_103) rfl (fun hc2 => ?_) (fun hc2 => ?_)
  · replace h := jw_pos hc2 h
    refine xo_2 rfl ?_
    refine xm_33 (i := 4160) (q := 66) (jSrd_ok hS (.ref 71)) ly65 rfl (xm_P (jSrd_ok hS (.ref 71)) (by decide)) ?_
    refine xo_2 rfl ?_
    refine xm_33 (i := 4190) (q := 80) (jSrd_ok hS (.ref 71)) ly65 rfl (xm_P (jSrd_ok hS (.ref 71)) (by decide)) ?_
    refine xo_8 ?_
    refine xo_50 (st' := []) rfl rfl rfl (Nat.le_of_ble_eq_true rfl) ?_
    refine t_X11_lay_66_80 hS ?_
    refine jw_mono (jw_bind h) (fun q3 h => ?_)
    show jx_Ex _ _ _ _ [] (jh (jSrd S (.ref 71)) q3.2) _
    refine xo_2 rfl ?_
    refine xo_8 ?_
    refine xm_34 (i := 4193) (jSrd_ok hS (.ref 71)) ly65 rfl ⟨Nat.le_of_ble_eq_true rfl, Nat.le_of_ble_eq_true rfl⟩ ?_
    refine xo_8 ?_
    refine xo_4 (ls' := [.ref 65, .int x1, w2, .int 0]) rfl ?_
    exact t_X11_journey_b122 hS 1000 h
  · replace h := jw_neg hc2 h
    refine xo_8 ?_
    refine xo_2 rfl ?_
    refine xm_32 (i := 4177) (v := (q1.2.1 4177)) (jSrd_ok hS (.ref 71)) ly65 rfl ⟨Nat.le_of_ble_eq_true rfl, Nat.le_of_ble_eq_true rfl⟩ rfl ?_
    refine xo_15 ?_
    replace h := jw_some h
    exact xo_69 (h (.ref 71))
theorem t_X11_journey_b70 {S : jS} (hS : jMok S) {d : Nat} {Q : Option Value → jx_H → Prop} {x1 : Int32} {w2 : Value} {w3 : Value} {σ : jT} (h : jw (f_X11_journey_b70 x1 σ) (fun q => ∀ rd : Value, Q (some (.int q.1)) (jh (jSrd S rd) q.2))) : jx_Ex (d + 109) jm_l264 jm_b264_70 [.ref 65, .int x1, w2, w3] [] (jh (jSrd S (.ref 71)) σ) Q := by
  unfold f_X11_journey_b70 at h
  refine xo_2 rfl ?_
  refine xm_32 (i := 4176) (v := (σ.1 4176)) (jSrd_ok hS (.ref 71)) ly65 rfl ⟨Nat.le_of_ble_eq_true rfl, Nat.le_of_ble_eq_true rfl⟩ rfl ?_
  refine xo_2 rfl ?_
  refine xm_32 (i := 4174) (v := (σ.1 4174)) (jSrd_ok hS (.ref 71)) ly65 rfl ⟨Nat.le_of_ble_eq_true rfl, Nat.le_of_ble_eq_true rfl⟩ rfl ?_
  refine xo_64 (t := jm_b264_89) rfl (fun hc1 => ?_) (fun hc1 => ?_)
  · replace h := jw_pos hc1 h
    exact t_X11_journey_b89 hS h
  · replace h := jw_neg hc1 h
    refine xo_2 rfl ?_
    refine xo_2 rfl ?_
    refine xm_32 (i := 4176) (v := (σ.1 4176)) (jSrd_ok hS (.ref 71)) ly65 rfl ⟨Nat.le_of_ble_eq_true rfl, Nat.le_of_ble_eq_true rfl⟩ rfl ?_
    refine xo_49 (st' := []) rfl rfl (xm_ly (jSrd_ok hS (.ref 71)) ly65) rfl (Nat.le_of_ble_eq_true rfl) ?_
    refine t_X11_fault hS ?_
    refine jw_mono (jw_bind h) (fun q2 h => ?_)
    show jx_Ex _ _ _ _ [] (jh (jSrd S (.ref 71)) q2.2) _
    exact t_X11_journey_b89 hS h
theorem t_X11_journey_b39 {S : jS} (hS : jMok S) {d : Nat} {Q : Option Value → jx_H → Prop} : ∀ (n : Nat) {x1 : Int32} {x2 : Int32} {w3 : Value} {σ : jT}, jw (f_X11_journey_b39 n x1 x2 σ) (fun q => ∀ rd : Value, Q (some (.int q.1)) (jh (jSrd S rd) q.2)) → jx_Ex (d + 109) jm_l264 jm_b264_39 [.ref 65, .int x1, .int x2, w3] [] (jh (jSrd S (.ref 71)) σ) Q := by
  intro n
  induction n with
  | zero => intro x1 x2 w3 σ h; exact jw_none h
  | succ n ih =>
    intro x1 x2 w3 σ h
    rw [f_X11_journey_b39] at h
    refine xo_0 rfl ?_
    refine xo_55 (t := jm_b264_70) rfl (fun hc1 => ?_) (fun hc1 => ?_)
    · replace h := jw_pos hc1 h
      exact t_X11_journey_b70 hS h
    · replace h := jw_neg hc1 h
      refine xo_2 rfl ?_
      refine xo_49 (st' := []) rfl rfl (xm_ly (jSrd_ok hS (.ref 71)) ly65) rfl (Nat.le_of_ble_eq_true rfl) ?_
      refine t_X11_fine hS ?_
      refine jw_mono (jw_bind h) (fun q2 h => ?_)
      show jx_Ex _ _ _ _ [.int q2.1] (jh (jSrd S (.ref 71)) q2.2) _
      refine xo_55 (t := jm_b264_70) rfl (fun hc3 => ?_) (fun hc3 => ?_)
      · replace h := jw_pos hc3 h
        exact t_X11_journey_b70 hS h
      · replace h := jw_neg hc3 h
        refine xo_2 rfl ?_
        refine xo_8 ?_
        refine xo_0 rfl ?_
        refine xo_16 ?_
        refine xo_49 (st' := []) rfl rfl (xm_ly (jSrd_ok hS (.ref 71)) ly65) rfl (Nat.le_of_ble_eq_true rfl) ?_
        refine t_X11_readAct_T hS ?_
        refine jw_mono (jw_bind h) (fun q4 h => ?_)
        show jx_Ex _ _ _ _ [] (jh (jSrd S (.ref 71)) q4.2) _
        refine xo_13 (ls' := [.ref 65, .int (x1 + 1), .int x2, w3]) rfl rfl ?_
        refine xo_2 rfl ?_
        refine xo_9 ?_
        refine xo_49 (st' := []) rfl rfl (xm_ly (jSrd_ok hS (.ref 71)) ly65) rfl (Nat.le_of_ble_eq_true rfl) ?_
        refine t_X11_passes_T hS ?_
        refine jw_mono (jw_bind h) (fun q5 h => ?_)
        show jx_Ex _ _ _ _ [.int q5.1] (jh (jSrd S (.ref 71)) q5.2) _
        refine xo_4 (ls' := [.ref 65, .int (x1 + 1), .int q5.1, w3]) rfl ?_
        refine xo_54 (t := jm_b264_39) rfl ?_
        exact ih h
theorem t_X11_journey_b38 {S : jS} (hS : jMok S) {d : Nat} {Q : Option Value → jx_H → Prop} {x1 : Int32} {s0 : Int32} {w2 : Value} {w3 : Value} {σ : jT} (h : jw (f_X11_journey_b38 x1 s0 σ) (fun q => ∀ rd : Value, Q (some (.int q.1)) (jh (jSrd S rd) q.2))) : jx_Ex (d + 109) jm_l264 jm_b264_38 [.ref 65, .int x1, w2, w3] [.int s0] (jh (jSrd S (.ref 71)) σ) Q := by
  unfold f_X11_journey_b38 at h
  refine xo_4 (ls' := [.ref 65, .int x1, .int s0, w3]) rfl ?_
  exact t_X11_journey_b39 hS 1000 h
theorem t_X11_journey {S : jS} (hS : jMok S) {d : Nat} {Q : Option Value → jx_H → Prop} {rd : Value} {σ : jT} (h : jw (f_X11_journey σ) (fun q => ∀ rd : Value, Q (some (.int q.1)) (jh (jSrd S rd) q.2))) : jx_Sp (d + 109) 264 [.ref 65] (jh (jSrd S rd) σ) Q := by
  refine ⟨jm_i264, jm_at264, rfl, rfl, ?_⟩
  show jx_Ex _ jm_l264 jm_b264_0 [.ref 65, .retAddr 0, .retAddr 0, .retAddr 0] [] _ _
  unfold f_X11_journey at h
  refine xo_2 rfl ?_
  refine xo_8 ?_
  refine xm_34 (i := 4172) (jSrd_ok hS rd) ly65 rfl ⟨Nat.le_of_ble_eq_true rfl, Nat.le_of_ble_eq_true rfl⟩ ?_
  refine xo_2 rfl ?_
  refine xo_2 rfl ?_
  refine xm_33 (i := 4168) (q := 71) (jSrd_ok hS rd) ly65 rfl (xm_P (jSrd_ok hS rd) (by decide)) ?_
  refine xo_2 rfl ?_
  refine xm_32 (i := 4169) (v := (σ.1 4169)) (jSrd_ok hS rd) ly65 rfl ⟨Nat.le_of_ble_eq_true rfl, Nat.le_of_ble_eq_true rfl⟩ rfl ?_
  refine xo_9 ?_
  refine xo_49 (st' := []) rfl rfl (xm_ly (jSrd_ok hS rd) ly65) rfl (Nat.le_of_ble_eq_true rfl) ?_
  refine t_X11_begin_71 hS ?_
  refine jw_mono (jw_bind h) (fun q1 h => ?_)
  show jx_Ex _ _ _ _ [] (jh (jSrd S (.ref 71)) q1.2) _
  refine xo_2 rfl ?_
  refine xo_8 ?_
  refine xm_34 (i := 4169) (jSrd_ok hS (.ref 71)) ly65 rfl ⟨Nat.le_of_ble_eq_true rfl, Nat.le_of_ble_eq_true rfl⟩ ?_
  refine xo_8 ?_
  refine xo_4 (ls' := [.ref 65, .int 0, .retAddr 0, .retAddr 0]) rfl ?_
  refine xo_2 rfl ?_
  refine xm_32 (i := 4174) (v := (q1.2.1 4174)) (jSrd_ok hS (.ref 71)) ly65 rfl ⟨Nat.le_of_ble_eq_true rfl, Nat.le_of_ble_eq_true rfl⟩ rfl ?_
  refine xo_60 (t := jm_b264_37) rfl (fun hc2 => ?_) (fun hc2 => ?_)
  · replace h := jw_pos hc2 h
    refine xo_8 ?_
    exact t_X11_journey_b38 hS h
  · replace h := jw_neg hc2 h
    refine xo_8 ?_
    refine xo_54 (t := jm_b264_38) rfl ?_
    exact t_X11_journey_b38 hS h
/-- OfDifferentMindsModel.capSpent, at ['m'] K -/
def f_X11_capSpent_b2 : Nat → Int32 → jT → Option (Int32 × jT)
  | 0, _, _ => none
  | n + 1, x1, σ =>
    if (σ.1 4165) ≤ x1 then
      some (0, σ)
    else
      if jx_in (4 + x1) 28 then
      if jx_in x1 6 then
      f_X11_capSpent_b2 n (x1 + 1) (gA σ 66 (4 + x1).toNatClampNeg (jx_min (σ.2 66 (4 + x1).toNatClampNeg) (σ.2 69 x1.toNatClampNeg)))
      else none
      else none
def f_X11_capSpent (σ : jT) : Option (Int32 × jT) :=
  f_X11_capSpent_b2 1000 0 σ
theorem t_X11_capSpent_b2 {S : jS} (hS : jMok S) {d : Nat} {Q : Option Value → jx_H → Prop} {rd : Value} : ∀ (n : Nat) {x1 : Int32} {σ : jT}, jw (f_X11_capSpent_b2 n x1 σ) (fun q => Q none (jh (jSrd S rd) q.2)) → jx_Ex (d) jm_l268 jm_b268_2 [.ref 65, .int x1] [] (jh (jSrd S rd) σ) Q := by
  intro n
  induction n with
  | zero => intro x1 σ h; exact jw_none h
  | succ n ih =>
    intro x1 σ h
    rw [f_X11_capSpent_b2] at h
    refine xo_0 rfl ?_
    refine xo_2 rfl ?_
    refine xm_32 (i := 4165) (v := (σ.1 4165)) (jSrd_ok hS rd) ly65 rfl ⟨Nat.le_of_ble_eq_true rfl, Nat.le_of_ble_eq_true rfl⟩ rfl ?_
    refine xo_64 (t := jm_b268_41) rfl (fun hc1 => ?_) (fun hc1 => ?_)
    · replace h := jw_pos hc1 h
      replace h := jw_some h
      exact xo_71 h
    · replace h := jw_neg hc1 h
      refine xo_2 rfl ?_
      refine xm_33 (i := 4160) (q := 66) (jSrd_ok hS rd) ly65 rfl (xm_P (jSrd_ok hS rd) (by decide)) ?_
      refine xo_8 ?_
      refine xo_0 rfl ?_
      refine xo_14 ?_
      refine xo_2 rfl ?_
      refine xm_33 (i := 4160) (q := 66) (jSrd_ok hS rd) ly65 rfl (xm_P (jSrd_ok hS rd) (by decide)) ?_
      refine xo_8 ?_
      refine xo_0 rfl ?_
      refine xo_14 ?_
      obtain ⟨hi2, h⟩ := jw_chk h
      refine xm_38 (j := (4 + x1).toNatClampNeg) (v := (σ.2 66 (4 + x1).toNatClampNeg)) (jSrd_ok hS rd) ly66 ⟨Nat.le_of_ble_eq_true rfl, Nat.le_of_ble_eq_true rfl⟩ hi2 rfl rfl ?_
      refine xo_2 rfl ?_
      refine xm_33 (i := 4166) (q := 69) (jSrd_ok hS rd) ly65 rfl (xm_P (jSrd_ok hS rd) (by decide)) ?_
      refine xo_0 rfl ?_
      obtain ⟨hi3, h⟩ := jw_chk h
      refine xm_38 (j := x1.toNatClampNeg) (v := (σ.2 69 x1.toNatClampNeg)) (jSrd_ok hS rd) ly69 ⟨Nat.le_of_ble_eq_true rfl, Nat.le_of_ble_eq_true rfl⟩ hi3 rfl rfl ?_
      refine xo_73 (Nat.le_of_ble_eq_true rfl) ?_
      refine xm_41 (j := (4 + x1).toNatClampNeg) (jSrd_ok hS rd) ly66 ⟨Nat.le_of_ble_eq_true rfl, Nat.le_of_ble_eq_true rfl⟩ hi2 rfl ?_
      refine xo_13 (ls' := [.ref 65, .int (x1 + 1)]) rfl rfl ?_
      refine xo_54 (t := jm_b268_2) rfl ?_
      exact ih h
theorem t_X11_capSpent {S : jS} (hS : jMok S) {d : Nat} {Q : Option Value → jx_H → Prop} {rd : Value} {σ : jT} (h : jw (f_X11_capSpent σ) (fun q => Q none (jh (jSrd S rd) q.2))) : jx_Sp (d) 268 [.ref 65] (jh (jSrd S rd) σ) Q := by
  refine ⟨jm_i268, jm_at268, rfl, rfl, ?_⟩
  show jx_Ex _ jm_l268 jm_b268_0 [.ref 65, .retAddr 0] [] _ _
  unfold f_X11_capSpent at h
  refine xo_8 ?_
  refine xo_4 (ls' := [.ref 65, .int 0]) rfl ?_
  exact t_X11_capSpent_b2 hS 1000 h
/-- OfDifferentMindsModel.undo, at ['m'] K -/
def f_X11_undo_b26 : Nat → Int32 → jT → Option (Int32 × jT)
  | 0, _, _ => none
  | n + 1, x1, σ =>
    if 28 ≤ x1 then
      (f_X11_capSpent σ).bind fun q2 =>
      some ((q2.2.1 4189), q2.2)
    else
      if jx_in ((28 * (σ.1 4189)) + x1) 336 then
      if jx_in x1 28 then
      f_X11_undo_b26 n (x1 + 1) (gA σ 66 x1.toNatClampNeg (σ.2 79 ((28 * (σ.1 4189)) + x1).toNatClampNeg))
      else none
      else none
def f_X11_undo (σ : jT) : Option (Int32 × jT) :=
  if ¬ (σ.1 4189) = 0 then
    f_X11_undo_b26 1000 0 (gs (gs σ 4172 0) 4189 ((σ.1 4189) - 1))
  else
    some ((-1), (gs σ 4172 0))
theorem t_X11_undo_b26 {S : jS} (hS : jMok S) {d : Nat} {Q : Option Value → jx_H → Prop} {rd : Value} : ∀ (n : Nat) {x1 : Int32} {σ : jT}, jw (f_X11_undo_b26 n x1 σ) (fun q => Q (some (.int q.1)) (jh (jSrd S rd) q.2)) → jx_Ex (d + 1) jm_l267 jm_b267_26 [.ref 65, .int x1] [] (jh (jSrd S rd) σ) Q := by
  intro n
  induction n with
  | zero => intro x1 σ h; exact jw_none h
  | succ n ih =>
    intro x1 σ h
    rw [f_X11_undo_b26] at h
    refine xo_0 rfl ?_
    refine xo_9 ?_
    refine xo_64 (t := jm_b267_58) rfl (fun hc1 => ?_) (fun hc1 => ?_)
    · replace h := jw_pos hc1 h
      refine xo_2 rfl ?_
      refine xo_49 (st' := []) rfl rfl (xm_ly (jSrd_ok hS rd) ly65) rfl (Nat.le_of_ble_eq_true rfl) ?_
      refine t_X11_capSpent hS ?_
      refine jw_mono (jw_bind h) (fun q2 h => ?_)
      show jx_Ex _ _ _ _ [] (jh (jSrd S rd) q2.2) _
      refine xo_2 rfl ?_
      refine xm_32 (i := 4189) (v := (q2.2.1 4189)) (jSrd_ok hS rd) ly65 rfl ⟨Nat.le_of_ble_eq_true rfl, Nat.le_of_ble_eq_true rfl⟩ rfl ?_
      replace h := jw_some h
      exact xo_69 h
    · replace h := jw_neg hc1 h
      refine xo_2 rfl ?_
      refine xm_33 (i := 4160) (q := 66) (jSrd_ok hS rd) ly65 rfl (xm_P (jSrd_ok hS rd) (by decide)) ?_
      refine xo_0 rfl ?_
      refine xo_2 rfl ?_
      refine xm_33 (i := 4188) (q := 79) (jSrd_ok hS rd) ly65 rfl (xm_P (jSrd_ok hS rd) (by decide)) ?_
      refine xo_9 ?_
      refine xo_2 rfl ?_
      refine xm_32 (i := 4189) (v := (σ.1 4189)) (jSrd_ok hS rd) ly65 rfl ⟨Nat.le_of_ble_eq_true rfl, Nat.le_of_ble_eq_true rfl⟩ rfl ?_
      refine xo_16 ?_
      refine xo_0 rfl ?_
      refine xo_14 ?_
      obtain ⟨hi3, h⟩ := jw_chk h
      refine xm_38 (j := ((28 * (σ.1 4189)) + x1).toNatClampNeg) (v := (σ.2 79 ((28 * (σ.1 4189)) + x1).toNatClampNeg)) (jSrd_ok hS rd) ly79 ⟨Nat.le_of_ble_eq_true rfl, Nat.le_of_ble_eq_true rfl⟩ hi3 rfl rfl ?_
      obtain ⟨hi4, h⟩ := jw_chk h
      refine xm_41 (j := x1.toNatClampNeg) (jSrd_ok hS rd) ly66 ⟨Nat.le_of_ble_eq_true rfl, Nat.le_of_ble_eq_true rfl⟩ hi4 rfl ?_
      refine xo_13 (ls' := [.ref 65, .int (x1 + 1)]) rfl rfl ?_
      refine xo_54 (t := jm_b267_26) rfl ?_
      exact ih h
theorem t_X11_undo {S : jS} (hS : jMok S) {d : Nat} {Q : Option Value → jx_H → Prop} {rd : Value} {σ : jT} (h : jw (f_X11_undo σ) (fun q => Q (some (.int q.1)) (jh (jSrd S rd) q.2))) : jx_Sp (d + 1) 267 [.ref 65] (jh (jSrd S rd) σ) Q := by
  refine ⟨jm_i267, jm_at267, rfl, rfl, ?_⟩
  show jx_Ex _ jm_l267 jm_b267_0 [.ref 65, .retAddr 0] [] _ _
  unfold f_X11_undo at h
  refine xo_2 rfl ?_
  refine xo_8 ?_
  refine xm_34 (i := 4172) (jSrd_ok hS rd) ly65 rfl ⟨Nat.le_of_ble_eq_true rfl, Nat.le_of_ble_eq_true rfl⟩ ?_
  refine xo_2 rfl ?_
  refine xm_32 (i := 4189) (v := (σ.1 4189)) (jSrd_ok hS rd) ly65 rfl ⟨Nat.le_of_ble_eq_true rfl, Nat.le_of_ble_eq_true rfl⟩ rfl ?_
  refine xo_56 (t := jm_b267_14) rfl (fun hc1 => ?_) (fun hc1 => ?_)
  · replace h := jw_pos hc1 h
    refine xo_2 rfl ?_
    refine xo_28r ?_
    refine xm_32 (i := 4189) (v := (σ.1 4189)) (jSrd_ok hS rd) ly65 rfl ⟨Nat.le_of_ble_eq_true rfl, Nat.le_of_ble_eq_true rfl⟩ rfl ?_
    refine xo_8 ?_
    refine xo_15 ?_
    refine xm_34 (i := 4189) (jSrd_ok hS rd) ly65 rfl ⟨Nat.le_of_ble_eq_true rfl, Nat.le_of_ble_eq_true rfl⟩ ?_
    refine xo_8 ?_
    refine xo_4 (ls' := [.ref 65, .int 0]) rfl ?_
    exact t_X11_undo_b26 hS 1000 h
  · replace h := jw_neg hc1 h
    refine xo_8 ?_
    replace h := jw_some h
    exact xo_69 h
/-- OfDifferentMindsModel.lay, at ['m.now', 'm.then', 'int'] K -/
def f_X11_lay_66_82_b2 : Nat → Int32 → Int32 → jT → Option (Int32 × jT)
  | 0, _, _, _ => none
  | n + 1, x2, x3, σ =>
    if 28 ≤ x3 then
      some (0, σ)
    else
      if jx_in x3 28 then
      if jx_in (x2 + x3) 28 then
      f_X11_lay_66_82_b2 n x2 (x3 + 1) (gA σ 82 (x2 + x3).toNatClampNeg (σ.2 66 x3.toNatClampNeg))
      else none
      else none
def f_X11_lay_66_82 (x2 : Int32) (σ : jT) : Option (Int32 × jT) :=
  f_X11_lay_66_82_b2 1000 x2 0 σ
theorem t_X11_lay_66_82_b2 {S : jS} (hS : jMok S) {d : Nat} {Q : Option Value → jx_H → Prop} {rd : Value} : ∀ (n : Nat) {x2 : Int32} {x3 : Int32} {σ : jT}, jw (f_X11_lay_66_82_b2 n x2 x3 σ) (fun q => Q none (jh (jSrd S rd) q.2)) → jx_Ex (d) jm_l241 jm_b241_2 [.ref 66, .ref 82, .int x2, .int x3] [] (jh (jSrd S rd) σ) Q := by
  intro n
  induction n with
  | zero => intro x2 x3 σ h; exact jw_none h
  | succ n ih =>
    intro x2 x3 σ h
    rw [f_X11_lay_66_82_b2] at h
    refine xo_0 rfl ?_
    refine xo_9 ?_
    refine xo_64 (t := jm_b241_22) rfl (fun hc1 => ?_) (fun hc1 => ?_)
    · replace h := jw_pos hc1 h
      replace h := jw_some h
      exact xo_71 h
    · replace h := jw_neg hc1 h
      refine xo_2 rfl ?_
      refine xo_0 rfl ?_
      refine xo_0 rfl ?_
      refine xo_14 ?_
      refine xo_2 rfl ?_
      refine xo_0 rfl ?_
      obtain ⟨hi2, h⟩ := jw_chk h
      refine xm_38 (j := x3.toNatClampNeg) (v := (σ.2 66 x3.toNatClampNeg)) (jSrd_ok hS rd) ly66 ⟨Nat.le_of_ble_eq_true rfl, Nat.le_of_ble_eq_true rfl⟩ hi2 rfl rfl ?_
      obtain ⟨hi3, h⟩ := jw_chk h
      refine xm_41 (j := (x2 + x3).toNatClampNeg) (jSrd_ok hS rd) ly82 ⟨Nat.le_of_ble_eq_true rfl, Nat.le_of_ble_eq_true rfl⟩ hi3 rfl ?_
      refine xo_13 (ls' := [.ref 66, .ref 82, .int x2, .int (x3 + 1)]) rfl rfl ?_
      refine xo_54 (t := jm_b241_2) rfl ?_
      exact ih h
theorem t_X11_lay_66_82 {S : jS} (hS : jMok S) {d : Nat} {Q : Option Value → jx_H → Prop} {rd : Value} {x2 : Int32} {σ : jT} (h : jw (f_X11_lay_66_82 x2 σ) (fun q => Q none (jh (jSrd S rd) q.2))) : jx_Sp (d) 241 [.ref 66, .ref 82, .int x2] (jh (jSrd S rd) σ) Q := by
  refine ⟨jm_i241, jm_at241, rfl, rfl, ?_⟩
  show jx_Ex _ jm_l241 jm_b241_0 [.ref 66, .ref 82, .int x2, .retAddr 0] [] _ _
  unfold f_X11_lay_66_82 at h
  refine xo_8 ?_
  refine xo_4 (ls' := [.ref 66, .ref 82, .int x2, .int 0]) rfl ?_
  exact t_X11_lay_66_82_b2 hS 1000 h
/-- OfDifferentMindsModel.viewOf, at ['m', 'm.then', 'int', 'int'] K -/
def f_X11_viewOf_82_b20 (x3 : Int32) (s0 : Int32) (σ : jT) : Option (Int32 × jT) :=
  if jx_in (22 + s0) 28 then
  if jx_in ((10 * (σ.2 82 (22 + s0).toNatClampNeg)) + x3) 60 then
  if jx_in x3 10 then
  if (σ.2 67 x3.toNatClampNeg) = 0 then none else
  some (((σ.2 70 ((10 * (σ.2 82 (22 + s0).toNatClampNeg)) + x3).toNatClampNeg) - (σ.2 70 ((10 * (σ.2 82 (22 + s0).toNatClampNeg)) + x3).toNatClampNeg) / (σ.2 67 x3.toNatClampNeg) * (σ.2 67 x3.toNatClampNeg)), σ)
  else none
  else none
  else none
def f_X11_viewOf_82 (x2 : Int32) (x3 : Int32) (σ : jT) : Option (Int32 × jT) :=
  if jx_in (16 + x2) 28 then
  if ¬ (σ.2 82 (16 + x2).toNatClampNeg) = (-1) then
    f_X11_viewOf_82_b20 x3 (σ.2 82 (16 + x2).toNatClampNeg) σ
  else
    f_X11_viewOf_82_b20 x3 x2 σ
  else none
theorem t_X11_viewOf_82_b20 {S : jS} (hS : jMok S) {d : Nat} {Q : Option Value → jx_H → Prop} {rd : Value} {x3 : Int32} {s0 : Int32} {w2 : Value} {w4 : Value} {σ : jT} (h : jw (f_X11_viewOf_82_b20 x3 s0 σ) (fun q => Q (some (.int q.1)) (jh (jSrd S rd) q.2))) : jx_Ex (d) jm_l232 jm_b232_20 [.ref 65, .ref 82, w2, .int x3, w4] [.int s0] (jh (jSrd S rd) σ) Q := by
  unfold f_X11_viewOf_82_b20 at h
  refine xo_5 (ls' := [.ref 65, .ref 82, w2, .int x3, .int s0]) rfl ?_
  refine xo_2 rfl ?_
  refine xm_33 (i := 4167) (q := 70) (jSrd_ok hS rd) ly65 rfl (xm_P (jSrd_ok hS rd) (by decide)) ?_
  refine xo_9 ?_
  refine xo_2 rfl ?_
  refine xo_9 ?_
  refine xo_1 rfl ?_
  refine xo_14 ?_
  obtain ⟨hi1, h⟩ := jw_chk h
  refine xm_38 (j := (22 + s0).toNatClampNeg) (v := (σ.2 82 (22 + s0).toNatClampNeg)) (jSrd_ok hS rd) ly82 ⟨Nat.le_of_ble_eq_true rfl, Nat.le_of_ble_eq_true rfl⟩ hi1 rfl rfl ?_
  refine xo_16 ?_
  refine xo_0 rfl ?_
  refine xo_14 ?_
  obtain ⟨hi2, h⟩ := jw_chk h
  refine xm_38 (j := ((10 * (σ.2 82 (22 + s0).toNatClampNeg)) + x3).toNatClampNeg) (v := (σ.2 70 ((10 * (σ.2 82 (22 + s0).toNatClampNeg)) + x3).toNatClampNeg)) (jSrd_ok hS rd) ly70 ⟨Nat.le_of_ble_eq_true rfl, Nat.le_of_ble_eq_true rfl⟩ hi2 rfl rfl ?_
  refine xo_2 rfl ?_
  refine xm_33 (i := 4162) (q := 67) (jSrd_ok hS rd) ly65 rfl (xm_P (jSrd_ok hS rd) (by decide)) ?_
  refine xo_0 rfl ?_
  obtain ⟨hi3, h⟩ := jw_chk h
  refine xm_38 (j := x3.toNatClampNeg) (v := (σ.2 67 x3.toNatClampNeg)) (jSrd_ok hS rd) ly67 ⟨Nat.le_of_ble_eq_true rfl, Nat.le_of_ble_eq_true rfl⟩ hi3 rfl rfl ?_
  obtain ⟨hy4, h⟩ := jw_chn h
  refine xo_18 hy4 ?_
  replace h := jw_some h
  exact xo_69 h
theorem t_X11_viewOf_82 {S : jS} (hS : jMok S) {d : Nat} {Q : Option Value → jx_H → Prop} {rd : Value} {x2 : Int32} {x3 : Int32} {σ : jT} (h : jw (f_X11_viewOf_82 x2 x3 σ) (fun q => Q (some (.int q.1)) (jh (jSrd S rd) q.2))) : jx_Sp (d) 232 [.ref 65, .ref 82, .int x2, .int x3] (jh (jSrd S rd) σ) Q := by
  refine ⟨jm_i232, jm_at232, rfl, rfl, ?_⟩
  show jx_Ex _ jm_l232 jm_b232_0 [.ref 65, .ref 82, .int x2, .int x3, .retAddr 0] [] _ _
  unfold f_X11_viewOf_82 at h
  refine xo_2 rfl ?_
  refine xo_9 ?_
  refine xo_0 rfl ?_
  refine xo_14 ?_
  obtain ⟨hi1, h⟩ := jw_chk h
  refine xm_38 (j := (16 + x2).toNatClampNeg) (v := (σ.2 82 (16 + x2).toNatClampNeg)) (jSrd_ok hS rd) ly82 ⟨Nat.le_of_ble_eq_true rfl, Nat.le_of_ble_eq_true rfl⟩ hi1 rfl rfl ?_
  refine xo_8 ?_
  refine xo_62 (t := jm_b232_14) rfl (fun hc2 => ?_) (fun hc2 => ?_)
  · replace h := jw_pos hc2 h
    refine xo_2 rfl ?_
    refine xo_9 ?_
    refine xo_0 rfl ?_
    refine xo_14 ?_
    refine xm_38 (j := (16 + x2).toNatClampNeg) (v := (σ.2 82 (16 + x2).toNatClampNeg)) (jSrd_ok hS rd) ly82 ⟨Nat.le_of_ble_eq_true rfl, Nat.le_of_ble_eq_true rfl⟩ hi1 rfl rfl ?_
    exact t_X11_viewOf_82_b20 hS h
  · replace h := jw_neg hc2 h
    refine xo_0 rfl ?_
    refine xo_54 (t := jm_b232_20) rfl ?_
    exact t_X11_viewOf_82_b20 hS h
/-- OfDifferentMindsModel.goesOn, at ['m', 'm.then'] K -/
def f_X11_goesOn_82 (σ : jT) : Option (Int32 × jT) :=
  if jx_in (σ.2 82 0) 10 then
  if (σ.2 67 (σ.2 82 0).toNatClampNeg) ≤ 0 then
    some (0, σ)
  else
    (f_X11_viewOf_82 (σ.2 82 1) (σ.2 82 0) σ).bind fun q3 =>
    (f_X11_viewOf_82 (q3.2.2 82 2) (σ.2 82 0) q3.2).bind fun q4 =>
    if q3.1 = q4.1 then
      some (0, q4.2)
    else
      some (1, q4.2)
  else none
theorem t_X11_goesOn_82 {S : jS} (hS : jMok S) {d : Nat} {Q : Option Value → jx_H → Prop} {rd : Value} {σ : jT} (h : jw (f_X11_goesOn_82 σ) (fun q => Q (some (.int q.1)) (jh (jSrd S rd) q.2))) : jx_Sp (d + 1) 234 [.ref 65, .ref 82] (jh (jSrd S rd) σ) Q := by
  refine ⟨jm_i234, jm_at234, rfl, rfl, ?_⟩
  show jx_Ex _ jm_l234 jm_b234_0 [.ref 65, .ref 82, .retAddr 0] [] _ _
  unfold f_X11_goesOn_82 at h
  refine xo_2 rfl ?_
  refine xo_8 ?_
  refine xm_38 (j := 0) (v := (σ.2 82 0)) (jSrd_ok hS rd) ly82 ⟨Nat.le_of_ble_eq_true rfl, Nat.le_of_ble_eq_true rfl⟩ (by decide) (by decide) rfl ?_
  refine xo_4 (ls' := [.ref 65, .ref 82, .int (σ.2 82 0)]) rfl ?_
  refine xo_2 rfl ?_
  refine xm_33 (i := 4162) (q := 67) (jSrd_ok hS rd) ly65 rfl (xm_P (jSrd_ok hS rd) (by decide)) ?_
  refine xo_0 rfl ?_
  obtain ⟨hi1, h⟩ := jw_chk h
  refine xm_38 (j := (σ.2 82 0).toNatClampNeg) (v := (σ.2 67 (σ.2 82 0).toNatClampNeg)) (jSrd_ok hS rd) ly67 ⟨Nat.le_of_ble_eq_true rfl, Nat.le_of_ble_eq_true rfl⟩ hi1 rfl rfl ?_
  refine xo_60 (t := jm_b234_38) rfl (fun hc2 => ?_) (fun hc2 => ?_)
  · replace h := jw_pos hc2 h
    refine xo_8 ?_
    replace h := jw_some h
    exact xo_70 (by decide) h
  · replace h := jw_neg hc2 h
    refine xo_2 rfl ?_
    refine xo_2 rfl ?_
    refine xo_2 rfl ?_
    refine xo_8 ?_
    refine xm_38 (j := 1) (v := (σ.2 82 1)) (jSrd_ok hS rd) ly82 ⟨Nat.le_of_ble_eq_true rfl, Nat.le_of_ble_eq_true rfl⟩ (by decide) (by decide) rfl ?_
    refine xo_0 rfl ?_
    refine xo_49 (st' := []) rfl rfl (xm_ly (jSrd_ok hS rd) ly65) rfl (Nat.le_of_ble_eq_true rfl) ?_
    refine t_X11_viewOf_82 hS ?_
    refine jw_mono (jw_bind h) (fun q3 h => ?_)
    show jx_Ex _ _ _ _ [.int q3.1] (jh (jSrd S rd) q3.2) _
    refine xo_2 rfl ?_
    refine xo_2 rfl ?_
    refine xo_2 rfl ?_
    refine xo_8 ?_
    refine xm_38 (j := 2) (v := (q3.2.2 82 2)) (jSrd_ok hS rd) ly82 ⟨Nat.le_of_ble_eq_true rfl, Nat.le_of_ble_eq_true rfl⟩ (by decide) (by decide) rfl ?_
    refine xo_0 rfl ?_
    refine xo_49 (st' := [.int q3.1]) rfl rfl (xm_ly (jSrd_ok hS rd) ly65) rfl (Nat.le_of_ble_eq_true rfl) ?_
    refine t_X11_viewOf_82 hS ?_
    refine jw_mono (jw_bind h) (fun q4 h => ?_)
    show jx_Ex _ _ _ _ [.int q4.1, .int q3.1] (jh (jSrd S rd) q4.2) _
    refine xo_61 (t := jm_b234_38) rfl (fun hc5 => ?_) (fun hc5 => ?_)
    · replace h := jw_pos hc5 h
      refine xo_8 ?_
      replace h := jw_some h
      exact xo_70 (by decide) h
    · replace h := jw_neg hc5 h
      refine xo_8 ?_
      refine xo_54 (t := jm_b234_39) rfl ?_
      replace h := jw_some h
      exact xo_70 (by decide) h
/-- OfDifferentMindsModel.leftOf, at ['m', 'm.then', 'int'] K -/
def f_X11_leftOf_82 (x2 : Int32) (σ : jT) : Option (Int32 × jT) :=
  if jx_in x2 6 then
  if jx_in (4 + x2) 28 then
  some (((σ.2 69 x2.toNatClampNeg) - (σ.2 82 (4 + x2).toNatClampNeg)), σ)
  else none
  else none
theorem t_X11_leftOf_82 {S : jS} (hS : jMok S) {d : Nat} {Q : Option Value → jx_H → Prop} {rd : Value} {x2 : Int32} {σ : jT} (h : jw (f_X11_leftOf_82 x2 σ) (fun q => Q (some (.int q.1)) (jh (jSrd S rd) q.2))) : jx_Sp (d) 233 [.ref 65, .ref 82, .int x2] (jh (jSrd S rd) σ) Q := by
  refine ⟨jm_i233, jm_at233, rfl, rfl, ?_⟩
  show jx_Ex _ jm_l233 jm_b233_0 [.ref 65, .ref 82, .int x2] [] _ _
  unfold f_X11_leftOf_82 at h
  refine xo_2 rfl ?_
  refine xm_33 (i := 4166) (q := 69) (jSrd_ok hS rd) ly65 rfl (xm_P (jSrd_ok hS rd) (by decide)) ?_
  refine xo_0 rfl ?_
  obtain ⟨hi1, h⟩ := jw_chk h
  refine xm_38 (j := x2.toNatClampNeg) (v := (σ.2 69 x2.toNatClampNeg)) (jSrd_ok hS rd) ly69 ⟨Nat.le_of_ble_eq_true rfl, Nat.le_of_ble_eq_true rfl⟩ hi1 rfl rfl ?_
  refine xo_2 rfl ?_
  refine xo_8 ?_
  refine xo_0 rfl ?_
  refine xo_14 ?_
  obtain ⟨hi2, h⟩ := jw_chk h
  refine xm_38 (j := (4 + x2).toNatClampNeg) (v := (σ.2 82 (4 + x2).toNatClampNeg)) (jSrd_ok hS rd) ly82 ⟨Nat.le_of_ble_eq_true rfl, Nat.le_of_ble_eq_true rfl⟩ hi2 rfl rfl ?_
  refine xo_15 ?_
  replace h := jw_some h
  exact xo_69 h
/-- OfDifferentMindsModel.goStep, at ['m', 'm.then', 'int', 'int'] U -/
def f_X11_goStep_82_b188 (s0 : Int32) (s1 : Int32) (σ : jT) : Option (Int32 × jT) :=
  if jx_in s1 28 then
  some (0, (gA σ 82 s1.toNatClampNeg s0))
  else none
def f_X11_goStep_82_b108 (x4 : Int32) (x5 : Int32) (s0 : Int32) (σ : jT) : Option (Int32 × jT) :=
  if jx_in (16 + s0) 28 then
  if (σ.2 82 (16 + s0).toNatClampNeg) = (-1) then
    if jx_in s0 6 then
    if jx_in (4 + s0) 28 then
    (f_X11_leftOf_82 s0 (gA (gs σ 4187 (-1)) 82 (4 + s0).toNatClampNeg (jx_min (σ.2 69 s0.toNatClampNeg) ((σ.2 82 (4 + s0).toNatClampNeg) + 1)))).bind fun q5 =>
    if q5.1 ≤ 0 then
      if ¬ s0 = x4 then
        f_X11_goStep_82_b188 x4 (16 + s0) (gs q5.2 4187 s0)
      else
        f_X11_goStep_82_b188 x5 (16 + s0) (gs q5.2 4187 s0)
    else
      some (0, q5.2)
    else none
    else none
  else
    some (0, (gs σ 4187 (-1)))
  else none
def f_X11_goStep_82 (x2 : Int32) (x3 : Int32) (σ : jT) : Option (Int32 × jT) :=
  (f_X11_leftOf_82 (σ.2 82 1) σ).bind fun q1 =>
  (f_X11_leftOf_82 (σ.2 82 2) q1.2).bind fun q2 =>
  (f_X11_wayBy x2 x3 (σ.2 82 0) (σ.2 82 3) q1.1 q2.1 q2.2).bind fun q3 =>
  if jx_in ((3 * (σ.2 82 0)) + q3.1) 30 then
  if jx_in (10 + (σ.2 82 1)) 28 then
  if jx_in (10 + (σ.2 82 2)) 28 then
  (f_X11_leftOf_82 (σ.2 82 1) (gA (gA (gA (gA q3.2 82 0 (q3.2.2 68 ((3 * (σ.2 82 0)) + q3.1).toNatClampNeg)) 82 (10 + (σ.2 82 1)).toNatClampNeg (q3.2.2 68 ((3 * (σ.2 82 0)) + q3.1).toNatClampNeg)) 82 (10 + (σ.2 82 2)).toNatClampNeg ((gA (gA q3.2 82 0 (q3.2.2 68 ((3 * (σ.2 82 0)) + q3.1).toNatClampNeg)) 82 (10 + (σ.2 82 1)).toNatClampNeg (q3.2.2 68 ((3 * (σ.2 82 0)) + q3.1).toNatClampNeg)).2 82 0)) 82 3 (((gA (gA (gA q3.2 82 0 (q3.2.2 68 ((3 * (σ.2 82 0)) + q3.1).toNatClampNeg)) 82 (10 + (σ.2 82 1)).toNatClampNeg (q3.2.2 68 ((3 * (σ.2 82 0)) + q3.1).toNatClampNeg)) 82 (10 + (σ.2 82 2)).toNatClampNeg ((gA (gA q3.2 82 0 (q3.2.2 68 ((3 * (σ.2 82 0)) + q3.1).toNatClampNeg)) 82 (10 + (σ.2 82 1)).toNatClampNeg (q3.2.2 68 ((3 * (σ.2 82 0)) + q3.1).toNatClampNeg)).2 82 0)).2 82 3) + 1))).bind fun q8 =>
  (f_X11_leftOf_82 (σ.2 82 2) q8.2).bind fun q9 =>
  if q9.1 ≤ q8.1 then
    f_X11_goStep_82_b108 (σ.2 82 1) (σ.2 82 2) (σ.2 82 2) q9.2
  else
    f_X11_goStep_82_b108 (σ.2 82 1) (σ.2 82 2) (σ.2 82 1) q9.2
  else none
  else none
  else none
theorem t_X11_goStep_82_b188 {S : jS} (hS : jMok S) {d : Nat} {Q : Option Value → jx_H → Prop} {rd : Value} {s0 : Int32} {s1 : Int32} {w0 : Value} {w1 : Value} {w2 : Value} {w3 : Value} {w4 : Value} {w5 : Value} {w6 : Value} {w7 : Value} {w8 : Value} {σ : jT} (h : jw (f_X11_goStep_82_b188 s0 s1 σ) (fun q => ∀ rd : Value, Q none (jh (jSrd S rd) q.2))) : jx_Ex (d + 105) jm_l235 jm_b235_188 [w0, w1, w2, w3, w4, w5, w6, w7, w8] [.int s0, .int s1, .ref 82] (jh (jSrd S rd) σ) Q := by
  unfold f_X11_goStep_82_b188 at h
  obtain ⟨hi1, h⟩ := jw_chk h
  refine xm_41 (j := s1.toNatClampNeg) (jSrd_ok hS rd) ly82 ⟨Nat.le_of_ble_eq_true rfl, Nat.le_of_ble_eq_true rfl⟩ hi1 rfl ?_
  replace h := jw_some h
  exact xo_71 (h rd)
theorem t_X11_goStep_82_b108 {S : jS} (hS : jMok S) {d : Nat} {Q : Option Value → jx_H → Prop} {rd : Value} {x4 : Int32} {x5 : Int32} {s0 : Int32} {w2 : Value} {w3 : Value} {w6 : Value} {w7 : Value} {w8 : Value} {σ : jT} (h : jw (f_X11_goStep_82_b108 x4 x5 s0 σ) (fun q => ∀ rd : Value, Q none (jh (jSrd S rd) q.2))) : jx_Ex (d + 105) jm_l235 jm_b235_108 [.ref 65, .ref 82, w2, w3, .int x4, .int x5, w6, w7, w8] [.int s0] (jh (jSrd S rd) σ) Q := by
  unfold f_X11_goStep_82_b108 at h
  refine xo_5 (ls' := [.ref 65, .ref 82, w2, w3, .int x4, .int x5, w6, w7, .int s0]) rfl ?_
  refine xo_2 rfl ?_
  refine xo_8 ?_
  refine xm_34 (i := 4187) (jSrd_ok hS rd) ly65 rfl ⟨Nat.le_of_ble_eq_true rfl, Nat.le_of_ble_eq_true rfl⟩ ?_
  refine xo_2 rfl ?_
  refine xo_9 ?_
  refine xo_1 rfl ?_
  refine xo_14 ?_
  obtain ⟨hi1, h⟩ := jw_chk h
  refine xm_38 (j := (16 + s0).toNatClampNeg) (v := (σ.2 82 (16 + s0).toNatClampNeg)) (jSrd_ok hS rd) ly82 ⟨Nat.le_of_ble_eq_true rfl, Nat.le_of_ble_eq_true rfl⟩ hi1 rfl rfl ?_
  refine xo_8 ?_
  refine xo_61 (t := jm_b235_127) rfl (fun hc2 => ?_) (fun hc2 => ?_)
  · replace h := jw_pos hc2 h
    refine xo_2 rfl ?_
    refine xo_8 ?_
    refine xo_1 rfl ?_
    refine xo_14 ?_
    refine xo_2 rfl ?_
    refine xm_33 (i := 4166) (q := 69) (jSrd_ok hS rd) ly65 rfl (xm_P (jSrd_ok hS rd) (by decide)) ?_
    refine xo_1 rfl ?_
    obtain ⟨hi3, h⟩ := jw_chk h
    refine xm_38 (j := s0.toNatClampNeg) (v := (σ.2 69 s0.toNatClampNeg)) (jSrd_ok hS rd) ly69 ⟨Nat.le_of_ble_eq_true rfl, Nat.le_of_ble_eq_true rfl⟩ hi3 rfl rfl ?_
    refine xo_2 rfl ?_
    refine xo_8 ?_
    refine xo_1 rfl ?_
    refine xo_14 ?_
    obtain ⟨hi4, h⟩ := jw_chk h
    refine xm_38 (j := (4 + s0).toNatClampNeg) (v := (σ.2 82 (4 + s0).toNatClampNeg)) (jSrd_ok hS rd) ly82 ⟨Nat.le_of_ble_eq_true rfl, Nat.le_of_ble_eq_true rfl⟩ hi4 rfl rfl ?_
    refine xo_8 ?_
    refine xo_14 ?_
    refine xo_73 (Nat.le_of_ble_eq_true rfl) ?_
    refine xm_41 (j := (4 + s0).toNatClampNeg) (jSrd_ok hS rd) ly82 ⟨Nat.le_of_ble_eq_true rfl, Nat.le_of_ble_eq_true rfl⟩ hi4 rfl ?_
    refine xo_2 rfl ?_
    refine xo_2 rfl ?_
    refine xo_1 rfl ?_
    refine xo_49 (st' := []) rfl rfl (xm_ly (jSrd_ok hS rd) ly65) rfl (Nat.le_of_ble_eq_true rfl) ?_
    refine t_X11_leftOf_82 hS ?_
    refine jw_mono (jw_bind h) (fun q5 h => ?_)
    show jx_Ex _ _ _ _ [.int q5.1] (jh (jSrd S rd) q5.2) _
    refine xo_60 (t := jm_b235_162) rfl (fun hc6 => ?_) (fun hc6 => ?_)
    · replace h := jw_pos hc6 h
      refine xo_2 rfl ?_
      refine xo_1 rfl ?_
      refine xm_34 (i := 4187) (jSrd_ok hS rd) ly65 rfl ⟨Nat.le_of_ble_eq_true rfl, Nat.le_of_ble_eq_true rfl⟩ ?_
      refine xo_2 rfl ?_
      refine xo_9 ?_
      refine xo_1 rfl ?_
      refine xo_14 ?_
      refine xo_1 rfl ?_
      refine xo_1 rfl ?_
      refine xo_62 (t := jm_b235_186) rfl (fun hc7 => ?_) (fun hc7 => ?_)
      · replace h := jw_pos hc7 h
        refine xo_1 rfl ?_
        exact t_X11_goStep_82_b188 hS h
      · replace h := jw_neg hc7 h
        refine xo_1 rfl ?_
        refine xo_54 (t := jm_b235_188) rfl ?_
        exact t_X11_goStep_82_b188 hS h
    · replace h := jw_neg hc6 h
      replace h := jw_some h
      exact xo_71 (h rd)
  · replace h := jw_neg hc2 h
    replace h := jw_some h
    exact xo_71 (h rd)
theorem t_X11_goStep_82 {S : jS} (hS : jMok S) {d : Nat} {Q : Option Value → jx_H → Prop} {rd : Value} {x2 : Int32} {x3 : Int32} {σ : jT} (h : jw (f_X11_goStep_82 x2 x3 σ) (fun q => ∀ rd : Value, Q none (jh (jSrd S rd) q.2))) : jx_Sp (d + 105) 235 [.ref 65, .ref 82, .int x2, .int x3] (jh (jSrd S rd) σ) Q := by
  refine ⟨jm_i235, jm_at235, rfl, rfl, ?_⟩
  show jx_Ex _ jm_l235 jm_b235_0 [.ref 65, .ref 82, .int x2, .int x3, .retAddr 0, .retAddr 0, .retAddr 0, .retAddr 0, .retAddr 0] [] _ _
  unfold f_X11_goStep_82 at h
  refine xo_2 rfl ?_
  refine xo_8 ?_
  refine xm_38 (j := 1) (v := (σ.2 82 1)) (jSrd_ok hS rd) ly82 ⟨Nat.le_of_ble_eq_true rfl, Nat.le_of_ble_eq_true rfl⟩ (by decide) (by decide) rfl ?_
  refine xo_5 (ls' := [.ref 65, .ref 82, .int x2, .int x3, .int (σ.2 82 1), .retAddr 0, .retAddr 0, .retAddr 0, .retAddr 0]) rfl ?_
  refine xo_2 rfl ?_
  refine xo_8 ?_
  refine xm_38 (j := 2) (v := (σ.2 82 2)) (jSrd_ok hS rd) ly82 ⟨Nat.le_of_ble_eq_true rfl, Nat.le_of_ble_eq_true rfl⟩ (by decide) (by decide) rfl ?_
  refine xo_5 (ls' := [.ref 65, .ref 82, .int x2, .int x3, .int (σ.2 82 1), .int (σ.2 82 2), .retAddr 0, .retAddr 0, .retAddr 0]) rfl ?_
  refine xo_2 rfl ?_
  refine xo_8 ?_
  refine xm_38 (j := 0) (v := (σ.2 82 0)) (jSrd_ok hS rd) ly82 ⟨Nat.le_of_ble_eq_true rfl, Nat.le_of_ble_eq_true rfl⟩ (by decide) (by decide) rfl ?_
  refine xo_5 (ls' := [.ref 65, .ref 82, .int x2, .int x3, .int (σ.2 82 1), .int (σ.2 82 2), .int (σ.2 82 0), .retAddr 0, .retAddr 0]) rfl ?_
  refine xo_2 rfl ?_
  refine xo_0 rfl ?_
  refine xo_0 rfl ?_
  refine xo_1 rfl ?_
  refine xo_2 rfl ?_
  refine xo_8 ?_
  refine xm_38 (j := 3) (v := (σ.2 82 3)) (jSrd_ok hS rd) ly82 ⟨Nat.le_of_ble_eq_true rfl, Nat.le_of_ble_eq_true rfl⟩ (by decide) (by decide) rfl ?_
  refine xo_2 rfl ?_
  refine xo_2 rfl ?_
  refine xo_1 rfl ?_
  refine xo_49 (st' := [.int (σ.2 82 3), .int (σ.2 82 0), .int x3, .int x2, .ref 65]) rfl rfl (xm_ly (jSrd_ok hS rd) ly65) rfl (Nat.le_of_ble_eq_true rfl) ?_
  refine t_X11_leftOf_82 hS ?_
  refine jw_mono (jw_bind h) (fun q1 h => ?_)
  show jx_Ex _ _ _ _ [.int q1.1, .int (σ.2 82 3), .int (σ.2 82 0), .int x3, .int x2, .ref 65] (jh (jSrd S rd) q1.2) _
  refine xo_2 rfl ?_
  refine xo_2 rfl ?_
  refine xo_1 rfl ?_
  refine xo_49 (st' := [.int q1.1, .int (σ.2 82 3), .int (σ.2 82 0), .int x3, .int x2, .ref 65]) rfl rfl (xm_ly (jSrd_ok hS rd) ly65) rfl (Nat.le_of_ble_eq_true rfl) ?_
  refine t_X11_leftOf_82 hS ?_
  refine jw_mono (jw_bind h) (fun q2 h => ?_)
  show jx_Ex _ _ _ _ [.int q2.1, .int q1.1, .int (σ.2 82 3), .int (σ.2 82 0), .int x3, .int x2, .ref 65] (jh (jSrd S rd) q2.2) _
  refine xo_49 (st' := []) rfl rfl (xm_ly (jSrd_ok hS rd) ly65) rfl (Nat.le_of_ble_eq_true rfl) ?_
  refine t_X11_wayBy hS ?_
  refine jw_mono (jw_bind h) (fun q3 h rd4 => ?_)
  show jx_Ex _ _ _ _ [.int q3.1] (jh (jSrd S rd4) q3.2) _
  refine xo_5 (ls' := [.ref 65, .ref 82, .int x2, .int x3, .int (σ.2 82 1), .int (σ.2 82 2), .int (σ.2 82 0), .int q3.1, .retAddr 0]) rfl ?_
  refine xo_2 rfl ?_
  refine xo_8 ?_
  refine xo_2 rfl ?_
  refine xm_33 (i := 4163) (q := 68) (jSrd_ok hS rd4) ly65 rfl (xm_P (jSrd_ok hS rd4) (by decide)) ?_
  refine xo_8 ?_
  refine xo_1 rfl ?_
  refine xo_16 ?_
  refine xo_1 rfl ?_
  refine xo_14 ?_
  obtain ⟨hi5, h⟩ := jw_chk h
  refine xm_38 (j := ((3 * (σ.2 82 0)) + q3.1).toNatClampNeg) (v := (q3.2.2 68 ((3 * (σ.2 82 0)) + q3.1).toNatClampNeg)) (jSrd_ok hS rd4) ly68 ⟨Nat.le_of_ble_eq_true rfl, Nat.le_of_ble_eq_true rfl⟩ hi5 rfl rfl ?_
  refine xm_41 (j := 0) (jSrd_ok hS rd4) ly82 ⟨Nat.le_of_ble_eq_true rfl, Nat.le_of_ble_eq_true rfl⟩ (by decide) (by decide) ?_
  refine xo_2 rfl ?_
  refine xo_9 ?_
  refine xo_1 rfl ?_
  refine xo_14 ?_
  refine xo_2 rfl ?_
  refine xo_8 ?_
  refine xm_38 (j := 0) (v := (q3.2.2 68 ((3 * (σ.2 82 0)) + q3.1).toNatClampNeg)) (jSrd_ok hS rd4) ly82 ⟨Nat.le_of_ble_eq_true rfl, Nat.le_of_ble_eq_true rfl⟩ (by decide) (by decide) rfl ?_
  obtain ⟨hi6, h⟩ := jw_chk h
  refine xm_41 (j := (10 + (σ.2 82 1)).toNatClampNeg) (jSrd_ok hS rd4) ly82 ⟨Nat.le_of_ble_eq_true rfl, Nat.le_of_ble_eq_true rfl⟩ hi6 rfl ?_
  refine xo_2 rfl ?_
  refine xo_9 ?_
  refine xo_1 rfl ?_
  refine xo_14 ?_
  refine xo_2 rfl ?_
  refine xo_8 ?_
  refine xm_38 (j := 0) (v := ((gA (gA q3.2 82 0 (q3.2.2 68 ((3 * (σ.2 82 0)) + q3.1).toNatClampNeg)) 82 (10 + (σ.2 82 1)).toNatClampNeg (q3.2.2 68 ((3 * (σ.2 82 0)) + q3.1).toNatClampNeg)).2 82 0)) (jSrd_ok hS rd4) ly82 ⟨Nat.le_of_ble_eq_true rfl, Nat.le_of_ble_eq_true rfl⟩ (by decide) (by decide) rfl ?_
  obtain ⟨hi7, h⟩ := jw_chk h
  refine xm_41 (j := (10 + (σ.2 82 2)).toNatClampNeg) (jSrd_ok hS rd4) ly82 ⟨Nat.le_of_ble_eq_true rfl, Nat.le_of_ble_eq_true rfl⟩ hi7 rfl ?_
  refine xo_2 rfl ?_
  refine xo_8 ?_
  refine xo_29 ?_
  refine xm_38 (j := 3) (v := ((gA (gA (gA q3.2 82 0 (q3.2.2 68 ((3 * (σ.2 82 0)) + q3.1).toNatClampNeg)) 82 (10 + (σ.2 82 1)).toNatClampNeg (q3.2.2 68 ((3 * (σ.2 82 0)) + q3.1).toNatClampNeg)) 82 (10 + (σ.2 82 2)).toNatClampNeg ((gA (gA q3.2 82 0 (q3.2.2 68 ((3 * (σ.2 82 0)) + q3.1).toNatClampNeg)) 82 (10 + (σ.2 82 1)).toNatClampNeg (q3.2.2 68 ((3 * (σ.2 82 0)) + q3.1).toNatClampNeg)).2 82 0)).2 82 3)) (jSrd_ok hS rd4) ly82 ⟨Nat.le_of_ble_eq_true rfl, Nat.le_of_ble_eq_true rfl⟩ (by decide) (by decide) rfl ?_
  refine xo_8 ?_
  refine xo_14 ?_
  refine xm_41 (j := 3) (jSrd_ok hS rd4) ly82 ⟨Nat.le_of_ble_eq_true rfl, Nat.le_of_ble_eq_true rfl⟩ (by decide) (by decide) ?_
  refine xo_2 rfl ?_
  refine xo_2 rfl ?_
  refine xo_1 rfl ?_
  refine xo_49 (st' := []) rfl rfl (xm_ly (jSrd_ok hS rd4) ly65) rfl (Nat.le_of_ble_eq_true rfl) ?_
  refine t_X11_leftOf_82 hS ?_
  refine jw_mono (jw_bind h) (fun q8 h => ?_)
  show jx_Ex _ _ _ _ [.int q8.1] (jh (jSrd S rd4) q8.2) _
  refine xo_2 rfl ?_
  refine xo_2 rfl ?_
  refine xo_1 rfl ?_
  refine xo_49 (st' := [.int q8.1]) rfl rfl (xm_ly (jSrd_ok hS rd4) ly65) rfl (Nat.le_of_ble_eq_true rfl) ?_
  refine t_X11_leftOf_82 hS ?_
  refine jw_mono (jw_bind h) (fun q9 h => ?_)
  show jx_Ex _ _ _ _ [.int q9.1, .int q8.1] (jh (jSrd S rd4) q9.2) _
  refine xo_64 (t := jm_b235_106) rfl (fun hc10 => ?_) (fun hc10 => ?_)
  · replace h := jw_pos hc10 h
    refine xo_1 rfl ?_
    exact t_X11_goStep_82_b108 hS h
  · replace h := jw_neg hc10 h
    refine xo_1 rfl ?_
    refine xo_54 (t := jm_b235_108) rfl ?_
    exact t_X11_goStep_82_b108 hS h
/-- OfDifferentMindsModel.step, at ['m', 'm.then'] U -/
def f_X11_step_82 (σ : jT) : Option (Int32 × jT) :=
  (f_X11_goesOn_82 σ).bind fun q1 =>
  if ¬ q1.1 = 0 then
    (f_X11_viewOf_82 (q1.2.2 82 1) (q1.2.2 82 0) q1.2).bind fun q3 =>
    (f_X11_viewOf_82 (q3.2.2 82 2) (q3.2.2 82 0) q3.2).bind fun q4 =>
    (f_X11_goStep_82 q3.1 q4.1 q4.2).bind fun q5 =>
    some (1, q5.2)
  else
    some (0, q1.2)
theorem t_X11_step_82 {S : jS} (hS : jMok S) {d : Nat} {Q : Option Value → jx_H → Prop} {rd : Value} {σ : jT} (h : jw (f_X11_step_82 σ) (fun q => ∀ rd : Value, Q (some (.int q.1)) (jh (jSrd S rd) q.2))) : jx_Sp (d + 106) 236 [.ref 65, .ref 82] (jh (jSrd S rd) σ) Q := by
  refine ⟨jm_i236, jm_at236, rfl, rfl, ?_⟩
  show jx_Ex _ jm_l236 jm_b236_0 [.ref 65, .ref 82] [] _ _
  unfold f_X11_step_82 at h
  refine xo_2 rfl ?_
  refine xo_2 rfl ?_
  refine xo_49 (st' := []) rfl rfl (xm_ly (jSrd_ok hS rd) ly65) rfl (Nat.le_of_ble_eq_true rfl) ?_
  refine t_X11_goesOn_82 hS ?_
  refine jw_mono (jw_bind h) (fun q1 h => ?_)
  show jx_Ex _ _ _ _ [.int q1.1] (jh (jSrd S rd) q1.2) _
  refine xo_56 (t := jm_b236_10) rfl (fun hc2 => ?_) (fun hc2 => ?_)
  · replace h := jw_pos hc2 h
    refine xo_2 rfl ?_
    refine xo_2 rfl ?_
    refine xo_2 rfl ?_
    refine xo_2 rfl ?_
    refine xo_2 rfl ?_
    refine xo_8 ?_
    refine xm_38 (j := 1) (v := (q1.2.2 82 1)) (jSrd_ok hS rd) ly82 ⟨Nat.le_of_ble_eq_true rfl, Nat.le_of_ble_eq_true rfl⟩ (by decide) (by decide) rfl ?_
    refine xo_2 rfl ?_
    refine xo_8 ?_
    refine xm_38 (j := 0) (v := (q1.2.2 82 0)) (jSrd_ok hS rd) ly82 ⟨Nat.le_of_ble_eq_true rfl, Nat.le_of_ble_eq_true rfl⟩ (by decide) (by decide) rfl ?_
    refine xo_49 (st' := [.ref 82, .ref 65]) rfl rfl (xm_ly (jSrd_ok hS rd) ly65) rfl (Nat.le_of_ble_eq_true rfl) ?_
    refine t_X11_viewOf_82 hS ?_
    refine jw_mono (jw_bind h) (fun q3 h => ?_)
    show jx_Ex _ _ _ _ [.int q3.1, .ref 82, .ref 65] (jh (jSrd S rd) q3.2) _
    refine xo_2 rfl ?_
    refine xo_2 rfl ?_
    refine xo_2 rfl ?_
    refine xo_8 ?_
    refine xm_38 (j := 2) (v := (q3.2.2 82 2)) (jSrd_ok hS rd) ly82 ⟨Nat.le_of_ble_eq_true rfl, Nat.le_of_ble_eq_true rfl⟩ (by decide) (by decide) rfl ?_
    refine xo_2 rfl ?_
    refine xo_8 ?_
    refine xm_38 (j := 0) (v := (q3.2.2 82 0)) (jSrd_ok hS rd) ly82 ⟨Nat.le_of_ble_eq_true rfl, Nat.le_of_ble_eq_true rfl⟩ (by decide) (by decide) rfl ?_
    refine xo_49 (st' := [.int q3.1, .ref 82, .ref 65]) rfl rfl (xm_ly (jSrd_ok hS rd) ly65) rfl (Nat.le_of_ble_eq_true rfl) ?_
    refine t_X11_viewOf_82 hS ?_
    refine jw_mono (jw_bind h) (fun q4 h => ?_)
    show jx_Ex _ _ _ _ [.int q4.1, .int q3.1, .ref 82, .ref 65] (jh (jSrd S rd) q4.2) _
    refine xo_49 (st' := []) rfl rfl (xm_ly (jSrd_ok hS rd) ly65) rfl (Nat.le_of_ble_eq_true rfl) ?_
    refine t_X11_goStep_82 hS ?_
    refine jw_mono (jw_bind h) (fun q5 h rd6 => ?_)
    show jx_Ex _ _ _ _ [] (jh (jSrd S rd6) q5.2) _
    refine xo_8 ?_
    replace h := jw_some h
    exact xo_70 (by decide) (h rd6)
  · replace h := jw_neg hc2 h
    refine xo_8 ?_
    replace h := jw_some h
    exact xo_70 (by decide) (h rd)
/-- OfDifferentMindsModel.goRide, at ['m', 'm.then', 'int'] U -/
def f_X11_goRide_82_b36 (k7 : Int32 → Int32 → jT → Option (Int32 × jT)) (x2 : Int32) (x3 : Int32) (σ : jT) : Option (Int32 × jT) :=
  k7 x2 (x3 + 1) σ
def f_X11_goRide_82_b7 : Nat → Int32 → Int32 → jT → Option (Int32 × jT)
  | 0, _, _, _ => none
  | n + 1, x2, x3, σ =>
    if x2 ≤ x3 then
      some (x3, σ)
    else
      (f_X11_step_82 σ).bind fun q2 =>
      if q2.1 = 0 then
        some (x3, q2.2)
      else
        if (q2.2.1 4187) = (-1) then
          f_X11_goRide_82_b36 (f_X11_goRide_82_b7 n) x2 x3 q2.2
        else
          f_X11_goRide_82_b36 (f_X11_goRide_82_b7 n) x2 x3 (gs q2.2 4191 (q2.2.1 4187))
def f_X11_goRide_82 (x2 : Int32) (σ : jT) : Option (Int32 × jT) :=
  f_X11_goRide_82_b7 1000 x2 0 (gs σ 4191 (-1))
theorem t_X11_goRide_82_b36 {S : jS} (hS : jMok S) {d : Nat} {Q : Option Value → jx_H → Prop} {k7 : Int32 → Int32 → jT → Option (Int32 × jT)} (hk7 : ∀ {rd : Value} {x2 : Int32} {x3 : Int32} {σ : jT}, jw (k7 x2 x3 σ) (fun q => ∀ rd : Value, Q (some (.int q.1)) (jh (jSrd S rd) q.2)) → jx_Ex (d + 107) jm_l248 jm_b248_7 [.ref 65, .ref 82, .int x2, .int x3] [] (jh (jSrd S rd) σ) Q) {rd : Value} {x2 : Int32} {x3 : Int32} {σ : jT} (h : jw (f_X11_goRide_82_b36 k7 x2 x3 σ) (fun q => ∀ rd : Value, Q (some (.int q.1)) (jh (jSrd S rd) q.2))) : jx_Ex (d + 107) jm_l248 jm_b248_36 [.ref 65, .ref 82, .int x2, .int x3] [] (jh (jSrd S rd) σ) Q := by
  unfold f_X11_goRide_82_b36 at h
  refine xo_13 (ls' := [.ref 65, .ref 82, .int x2, .int (x3 + 1)]) rfl rfl ?_
  refine xo_54 (t := jm_b248_7) rfl ?_
  exact hk7 h
theorem t_X11_goRide_82_b7 {S : jS} (hS : jMok S) {d : Nat} {Q : Option Value → jx_H → Prop} : ∀ (n : Nat) {rd : Value} {x2 : Int32} {x3 : Int32} {σ : jT}, jw (f_X11_goRide_82_b7 n x2 x3 σ) (fun q => ∀ rd : Value, Q (some (.int q.1)) (jh (jSrd S rd) q.2)) → jx_Ex (d + 107) jm_l248 jm_b248_7 [.ref 65, .ref 82, .int x2, .int x3] [] (jh (jSrd S rd) σ) Q := by
  intro n
  induction n with
  | zero => intro rd x2 x3 σ h; exact jw_none h
  | succ n ih =>
    intro rd x2 x3 σ h
    rw [f_X11_goRide_82_b7] at h
    refine xo_0 rfl ?_
    refine xo_0 rfl ?_
    refine xo_64 (t := jm_b248_42) rfl (fun hc1 => ?_) (fun hc1 => ?_)
    · replace h := jw_pos hc1 h
      refine xo_0 rfl ?_
      replace h := jw_some h
      exact xo_69 (h rd)
    · replace h := jw_neg hc1 h
      refine xo_2 rfl ?_
      refine xo_2 rfl ?_
      refine xo_49 (st' := []) rfl rfl (xm_ly (jSrd_ok hS rd) ly65) rfl (Nat.le_of_ble_eq_true rfl) ?_
      refine t_X11_step_82 hS ?_
      refine jw_mono (jw_bind h) (fun q2 h rd3 => ?_)
      show jx_Ex _ _ _ _ [.int q2.1] (jh (jSrd S rd3) q2.2) _
      refine xo_55 (t := jm_b248_42) rfl (fun hc4 => ?_) (fun hc4 => ?_)
      · replace h := jw_pos hc4 h
        refine xo_0 rfl ?_
        replace h := jw_some h
        exact xo_69 (h rd3)
      · replace h := jw_neg hc4 h
        refine xo_2 rfl ?_
        refine xm_32 (i := 4187) (v := (q2.2.1 4187)) (jSrd_ok hS rd3) ly65 rfl ⟨Nat.le_of_ble_eq_true rfl, Nat.le_of_ble_eq_true rfl⟩ rfl ?_
        refine xo_8 ?_
        refine xo_61 (t := jm_b248_36) rfl (fun hc5 => ?_) (fun hc5 => ?_)
        · replace h := jw_pos hc5 h
          exact t_X11_goRide_82_b36 hS ih h
        · replace h := jw_neg hc5 h
          refine xo_2 rfl ?_
          refine xo_2 rfl ?_
          refine xm_32 (i := 4187) (v := (q2.2.1 4187)) (jSrd_ok hS rd3) ly65 rfl ⟨Nat.le_of_ble_eq_true rfl, Nat.le_of_ble_eq_true rfl⟩ rfl ?_
          refine xm_34 (i := 4191) (jSrd_ok hS rd3) ly65 rfl ⟨Nat.le_of_ble_eq_true rfl, Nat.le_of_ble_eq_true rfl⟩ ?_
          exact t_X11_goRide_82_b36 hS ih h
theorem t_X11_goRide_82 {S : jS} (hS : jMok S) {d : Nat} {Q : Option Value → jx_H → Prop} {rd : Value} {x2 : Int32} {σ : jT} (h : jw (f_X11_goRide_82 x2 σ) (fun q => ∀ rd : Value, Q (some (.int q.1)) (jh (jSrd S rd) q.2))) : jx_Sp (d + 107) 248 [.ref 65, .ref 82, .int x2] (jh (jSrd S rd) σ) Q := by
  refine ⟨jm_i248, jm_at248, rfl, rfl, ?_⟩
  show jx_Ex _ jm_l248 jm_b248_0 [.ref 65, .ref 82, .int x2, .retAddr 0] [] _ _
  unfold f_X11_goRide_82 at h
  refine xo_8 ?_
  refine xo_4 (ls' := [.ref 65, .ref 82, .int x2, .int 0]) rfl ?_
  refine xo_2 rfl ?_
  refine xo_8 ?_
  refine xm_34 (i := 4191) (jSrd_ok hS rd) ly65 rfl ⟨Nat.le_of_ble_eq_true rfl, Nat.le_of_ble_eq_true rfl⟩ ?_
  exact t_X11_goRide_82_b7 hS 1000 h
/-- OfDifferentMindsModel.where, at ['m', 'int'] U -/
def f_X11_where_b79 (s0 : Int32) (σ : jT) : Option (Int32 × jT) :=
  (f_X11_tell s0 σ).bind fun q1 =>
  some ((q1.2.2 82 0), q1.2)
def f_X11_where_b74 (σ : jT) : Option (Int32 × jT) :=
  f_X11_where_b79 1 σ
def f_X11_where_b50 (x1 : Int32) (s0 : Int32) (σ : jT) : Option (Int32 × jT) :=
  (f_X11_tell s0 (gs σ 4171 0)).bind fun q1 =>
  (f_X11_isRidden q1.2).bind fun q2 =>
  if q2.1 = 0 then
    f_X11_where_b74 q2.2
  else
    if x1 ≤ s0 then
      f_X11_where_b79 0 q2.2
    else
      f_X11_where_b74 q2.2
def f_X11_where (x1 : Int32) (σ : jT) : Option (Int32 × jT) :=
  (f_X11_in x1 0 200 (gs σ 4172 0)).bind fun q1 =>
  if ¬ q1.1 = 0 then
    (f_X11_lay_66_82 0 q1.2).bind fun q3 =>
    (f_X11_isRidden q3.2).bind fun q4 =>
    if q4.1 = 0 then
      f_X11_where_b50 x1 0 q4.2
    else
      (f_X11_goRide_82 x1 q4.2).bind fun q6 =>
      f_X11_where_b50 x1 q6.1 q6.2
  else
    some ((-1), q1.2)
theorem t_X11_where_b79 {S : jS} (hS : jMok S) {d : Nat} {Q : Option Value → jx_H → Prop} {rd : Value} {s0 : Int32} {w1 : Value} {w2 : Value} {σ : jT} (h : jw (f_X11_where_b79 s0 σ) (fun q => ∀ rd : Value, Q (some (.int q.1)) (jh (jSrd S rd) q.2))) : jx_Ex (d + 108) jm_l269 jm_b269_79 [.ref 65, w1, w2] [.int s0, .ref 65] (jh (jSrd S rd) σ) Q := by
  unfold f_X11_where_b79 at h
  refine xo_49 (st' := []) rfl rfl (xm_ly (jSrd_ok hS rd) ly65) rfl (Nat.le_of_ble_eq_true rfl) ?_
  refine t_X11_tell hS ?_
  refine jw_mono (jw_bind h) (fun q1 h => ?_)
  show jx_Ex _ _ _ _ [] (jh (jSrd S rd) q1.2) _
  refine xo_2 rfl ?_
  refine xm_33 (i := 4194) (q := 82) (jSrd_ok hS rd) ly65 rfl (xm_P (jSrd_ok hS rd) (by decide)) ?_
  refine xo_8 ?_
  refine xm_38 (j := 0) (v := (q1.2.2 82 0)) (jSrd_ok hS rd) ly82 ⟨Nat.le_of_ble_eq_true rfl, Nat.le_of_ble_eq_true rfl⟩ (by decide) (by decide) rfl ?_
  replace h := jw_some h
  exact xo_69 (h rd)
theorem t_X11_where_b74 {S : jS} (hS : jMok S) {d : Nat} {Q : Option Value → jx_H → Prop} {rd : Value} {w1 : Value} {w2 : Value} {σ : jT} (h : jw (f_X11_where_b74 σ) (fun q => ∀ rd : Value, Q (some (.int q.1)) (jh (jSrd S rd) q.2))) : jx_Ex (d + 108) jm_l269 jm_b269_74 [.ref 65, w1, w2] [.ref 65] (jh (jSrd S rd) σ) Q := by
  unfold f_X11_where_b74 at h
  refine xo_8 ?_
  refine xo_54 (t := jm_b269_79) rfl ?_
  exact t_X11_where_b79 hS h
theorem t_X11_where_b50 {S : jS} (hS : jMok S) {d : Nat} {Q : Option Value → jx_H → Prop} {rd : Value} {x1 : Int32} {s0 : Int32} {w2 : Value} {σ : jT} (h : jw (f_X11_where_b50 x1 s0 σ) (fun q => ∀ rd : Value, Q (some (.int q.1)) (jh (jSrd S rd) q.2))) : jx_Ex (d + 108) jm_l269 jm_b269_50 [.ref 65, .int x1, w2] [.int s0] (jh (jSrd S rd) σ) Q := by
  unfold f_X11_where_b50 at h
  refine xo_4 (ls' := [.ref 65, .int x1, .int s0]) rfl ?_
  refine xo_2 rfl ?_
  refine xo_8 ?_
  refine xm_34 (i := 4171) (jSrd_ok hS rd) ly65 rfl ⟨Nat.le_of_ble_eq_true rfl, Nat.le_of_ble_eq_true rfl⟩ ?_
  refine xo_2 rfl ?_
  refine xo_0 rfl ?_
  refine xo_49 (st' := []) rfl rfl (xm_ly (jSrd_ok hS rd) ly65) rfl (Nat.le_of_ble_eq_true rfl) ?_
  refine t_X11_tell hS ?_
  refine jw_mono (jw_bind h) (fun q1 h => ?_)
  show jx_Ex _ _ _ _ [] (jh (jSrd S rd) q1.2) _
  refine xo_2 rfl ?_
  refine xo_2 rfl ?_
  refine xo_49 (st' := [.ref 65]) rfl rfl (xm_ly (jSrd_ok hS rd) ly65) rfl (Nat.le_of_ble_eq_true rfl) ?_
  refine t_X11_isRidden hS ?_
  refine jw_mono (jw_bind h) (fun q2 h => ?_)
  show jx_Ex _ _ _ _ [.int q2.1, .ref 65] (jh (jSrd S rd) q2.2) _
  refine xo_55 (t := jm_b269_74) rfl (fun hc3 => ?_) (fun hc3 => ?_)
  · replace h := jw_pos hc3 h
    exact t_X11_where_b74 hS h
  · replace h := jw_neg hc3 h
    refine xo_0 rfl ?_
    refine xo_0 rfl ?_
    refine xo_64 (t := jm_b269_78) rfl (fun hc4 => ?_) (fun hc4 => ?_)
    · replace h := jw_pos hc4 h
      refine xo_8 ?_
      exact t_X11_where_b79 hS h
    · replace h := jw_neg hc4 h
      exact t_X11_where_b74 hS h
theorem t_X11_where {S : jS} (hS : jMok S) {d : Nat} {Q : Option Value → jx_H → Prop} {rd : Value} {x1 : Int32} {σ : jT} (h : jw (f_X11_where x1 σ) (fun q => ∀ rd : Value, Q (some (.int q.1)) (jh (jSrd S rd) q.2))) : jx_Sp (d + 108) 269 [.ref 65, .int x1] (jh (jSrd S rd) σ) Q := by
  refine ⟨jm_i269, jm_at269, rfl, rfl, ?_⟩
  show jx_Ex _ jm_l269 jm_b269_0 [.ref 65, .int x1, .retAddr 0] [] _ _
  unfold f_X11_where at h
  refine xo_2 rfl ?_
  refine xo_8 ?_
  refine xm_34 (i := 4172) (jSrd_ok hS rd) ly65 rfl ⟨Nat.le_of_ble_eq_true rfl, Nat.le_of_ble_eq_true rfl⟩ ?_
  refine xo_0 rfl ?_
  refine xo_8 ?_
  refine xo_10 ?_
  refine xo_50 (st' := []) rfl rfl rfl (Nat.le_of_ble_eq_true rfl) ?_
  refine t_X11_in hS ?_
  refine jw_mono (jw_bind h) (fun q1 h => ?_)
  show jx_Ex _ _ _ _ [.int q1.1] (jh (jSrd S rd) q1.2) _
  refine xo_56 (t := jm_b269_18) rfl (fun hc2 => ?_) (fun hc2 => ?_)
  · replace h := jw_pos hc2 h
    refine xo_2 rfl ?_
    refine xm_33 (i := 4160) (q := 66) (jSrd_ok hS rd) ly65 rfl (xm_P (jSrd_ok hS rd) (by decide)) ?_
    refine xo_2 rfl ?_
    refine xm_33 (i := 4194) (q := 82) (jSrd_ok hS rd) ly65 rfl (xm_P (jSrd_ok hS rd) (by decide)) ?_
    refine xo_8 ?_
    refine xo_50 (st' := []) rfl rfl rfl (Nat.le_of_ble_eq_true rfl) ?_
    refine t_X11_lay_66_82 hS ?_
    refine jw_mono (jw_bind h) (fun q3 h => ?_)
    show jx_Ex _ _ _ _ [] (jh (jSrd S rd) q3.2) _
    refine xo_2 rfl ?_
    refine xo_49 (st' := []) rfl rfl (xm_ly (jSrd_ok hS rd) ly65) rfl (Nat.le_of_ble_eq_true rfl) ?_
    refine t_X11_isRidden hS ?_
    refine jw_mono (jw_bind h) (fun q4 h => ?_)
    show jx_Ex _ _ _ _ [.int q4.1] (jh (jSrd S rd) q4.2) _
    refine xo_55 (t := jm_b269_49) rfl (fun hc5 => ?_) (fun hc5 => ?_)
    · replace h := jw_pos hc5 h
      refine xo_8 ?_
      exact t_X11_where_b50 hS h
    · replace h := jw_neg hc5 h
      refine xo_2 rfl ?_
      refine xo_2 rfl ?_
      refine xm_33 (i := 4194) (q := 82) (jSrd_ok hS rd) ly65 rfl (xm_P (jSrd_ok hS rd) (by decide)) ?_
      refine xo_0 rfl ?_
      refine xo_49 (st' := []) rfl rfl (xm_ly (jSrd_ok hS rd) ly65) rfl (Nat.le_of_ble_eq_true rfl) ?_
      refine t_X11_goRide_82 hS ?_
      refine jw_mono (jw_bind h) (fun q6 h rd7 => ?_)
      show jx_Ex _ _ _ _ [.int q6.1] (jh (jSrd S rd7) q6.2) _
      refine xo_54 (t := jm_b269_50) rfl ?_
      exact t_X11_where_b50 hS h
  · replace h := jw_neg hc2 h
    refine xo_8 ?_
    replace h := jw_some h
    exact xo_69 (h rd)
/-- OfDifferentMindsModel.canRide, at ['m', 'int', 'int', 'int'] K -/
def f_X11_canRide (x1 : Int32) (x2 : Int32) (x3 : Int32) (σ : jT) : Option (Int32 × jT) :=
  (f_X11_areTwo x1 x2 σ).bind fun q1 =>
  if q1.1 = 0 then
    some (0, q1.2)
  else
    (f_X11_isPlace x3 q1.2).bind fun q3 =>
    if q3.1 = 0 then
      some (0, q3.2)
    else
      some (1, q3.2)
theorem t_X11_canRide {S : jS} (hS : jMok S) {d : Nat} {Q : Option Value → jx_H → Prop} {rd : Value} {x1 : Int32} {x2 : Int32} {x3 : Int32} {σ : jT} (h : jw (f_X11_canRide x1 x2 x3 σ) (fun q => Q (some (.int q.1)) (jh (jSrd S rd) q.2))) : jx_Sp (d + 3) 272 [.ref 65, .int x1, .int x2, .int x3] (jh (jSrd S rd) σ) Q := by
  refine ⟨jm_i272, jm_at272, rfl, rfl, ?_⟩
  show jx_Ex _ jm_l272 jm_b272_0 [.ref 65, .int x1, .int x2, .int x3] [] _ _
  unfold f_X11_canRide at h
  refine xo_2 rfl ?_
  refine xo_0 rfl ?_
  refine xo_0 rfl ?_
  refine xo_49 (st' := []) rfl rfl (xm_ly (jSrd_ok hS rd) ly65) rfl (Nat.le_of_ble_eq_true rfl) ?_
  refine t_X11_areTwo hS ?_
  refine jw_mono (jw_bind h) (fun q1 h => ?_)
  show jx_Ex _ _ _ _ [.int q1.1] (jh (jSrd S rd) q1.2) _
  refine xo_55 (t := jm_b272_21) rfl (fun hc2 => ?_) (fun hc2 => ?_)
  · replace h := jw_pos hc2 h
    refine xo_8 ?_
    replace h := jw_some h
    exact xo_70 (by decide) h
  · replace h := jw_neg hc2 h
    refine xo_2 rfl ?_
    refine xo_0 rfl ?_
    refine xo_49 (st' := []) rfl rfl (xm_ly (jSrd_ok hS rd) ly65) rfl (Nat.le_of_ble_eq_true rfl) ?_
    refine t_X11_isPlace hS ?_
    refine jw_mono (jw_bind h) (fun q3 h => ?_)
    show jx_Ex _ _ _ _ [.int q3.1] (jh (jSrd S rd) q3.2) _
    refine xo_55 (t := jm_b272_21) rfl (fun hc4 => ?_) (fun hc4 => ?_)
    · replace h := jw_pos hc4 h
      refine xo_8 ?_
      replace h := jw_some h
      exact xo_70 (by decide) h
    · replace h := jw_neg hc4 h
      refine xo_8 ?_
      refine xo_54 (t := jm_b272_22) rfl ?_
      replace h := jw_some h
      exact xo_70 (by decide) h
/-- OfDifferentMindsModel.freshen, at ['m'] K -/
def f_X11_freshen_b2 : Nat → Int32 → jT → Option (Int32 × jT)
  | 0, _, _ => none
  | n + 1, x1, σ =>
    if (σ.1 4165) ≤ x1 then
      some (0, σ)
    else
      if jx_in (4 + x1) 28 then
      if jx_in (16 + x1) 28 then
      f_X11_freshen_b2 n (x1 + 1) (gA (gA σ 82 (4 + x1).toNatClampNeg 0) 82 (16 + x1).toNatClampNeg (-1))
      else none
      else none
def f_X11_freshen (σ : jT) : Option (Int32 × jT) :=
  f_X11_freshen_b2 1000 0 σ
theorem t_X11_freshen_b2 {S : jS} (hS : jMok S) {d : Nat} {Q : Option Value → jx_H → Prop} {rd : Value} : ∀ (n : Nat) {x1 : Int32} {σ : jT}, jw (f_X11_freshen_b2 n x1 σ) (fun q => Q none (jh (jSrd S rd) q.2)) → jx_Ex (d) jm_l271 jm_b271_2 [.ref 65, .int x1] [] (jh (jSrd S rd) σ) Q := by
  intro n
  induction n with
  | zero => intro x1 σ h; exact jw_none h
  | succ n ih =>
    intro x1 σ h
    rw [f_X11_freshen_b2] at h
    refine xo_0 rfl ?_
    refine xo_2 rfl ?_
    refine xm_32 (i := 4165) (v := (σ.1 4165)) (jSrd_ok hS rd) ly65 rfl ⟨Nat.le_of_ble_eq_true rfl, Nat.le_of_ble_eq_true rfl⟩ rfl ?_
    refine xo_64 (t := jm_b271_35) rfl (fun hc1 => ?_) (fun hc1 => ?_)
    · replace h := jw_pos hc1 h
      replace h := jw_some h
      exact xo_71 h
    · replace h := jw_neg hc1 h
      refine xo_2 rfl ?_
      refine xm_33 (i := 4194) (q := 82) (jSrd_ok hS rd) ly65 rfl (xm_P (jSrd_ok hS rd) (by decide)) ?_
      refine xo_8 ?_
      refine xo_0 rfl ?_
      refine xo_14 ?_
      refine xo_8 ?_
      obtain ⟨hi2, h⟩ := jw_chk h
      refine xm_41 (j := (4 + x1).toNatClampNeg) (jSrd_ok hS rd) ly82 ⟨Nat.le_of_ble_eq_true rfl, Nat.le_of_ble_eq_true rfl⟩ hi2 rfl ?_
      refine xo_2 rfl ?_
      refine xm_33 (i := 4194) (q := 82) (jSrd_ok hS rd) ly65 rfl (xm_P (jSrd_ok hS rd) (by decide)) ?_
      refine xo_9 ?_
      refine xo_0 rfl ?_
      refine xo_14 ?_
      refine xo_8 ?_
      obtain ⟨hi3, h⟩ := jw_chk h
      refine xm_41 (j := (16 + x1).toNatClampNeg) (jSrd_ok hS rd) ly82 ⟨Nat.le_of_ble_eq_true rfl, Nat.le_of_ble_eq_true rfl⟩ hi3 rfl ?_
      refine xo_13 (ls' := [.ref 65, .int (x1 + 1)]) rfl rfl ?_
      refine xo_54 (t := jm_b271_2) rfl ?_
      exact ih h
theorem t_X11_freshen {S : jS} (hS : jMok S) {d : Nat} {Q : Option Value → jx_H → Prop} {rd : Value} {σ : jT} (h : jw (f_X11_freshen σ) (fun q => Q none (jh (jSrd S rd) q.2))) : jx_Sp (d) 271 [.ref 65] (jh (jSrd S rd) σ) Q := by
  refine ⟨jm_i271, jm_at271, rfl, rfl, ?_⟩
  show jx_Ex _ jm_l271 jm_b271_0 [.ref 65, .retAddr 0] [] _ _
  unfold f_X11_freshen at h
  refine xo_8 ?_
  refine xo_4 (ls' := [.ref 65, .int 0]) rfl ?_
  exact t_X11_freshen_b2 hS 1000 h
/-- OfDifferentMindsModel.mountThen, at ['m', 'int', 'int', 'int', 'int'] K -/
def f_X11_mountThen (x1 : Int32) (x2 : Int32) (x3 : Int32) (x4 : Int32) (σ : jT) : Option (Int32 × jT) :=
  (f_X11_lay_66_82 0 σ).bind fun q1 =>
  if x4 = 0 then
    some (0, (gA (gA (gA (gA q1.2 82 0 x3) 82 1 x1) 82 2 x2) 82 3 0))
  else
    (f_X11_freshen (gA (gA (gA (gA q1.2 82 0 x3) 82 1 x1) 82 2 x2) 82 3 0)).bind fun q3 =>
    some (0, q3.2)
theorem t_X11_mountThen {S : jS} (hS : jMok S) {d : Nat} {Q : Option Value → jx_H → Prop} {rd : Value} {x1 : Int32} {x2 : Int32} {x3 : Int32} {x4 : Int32} {σ : jT} (h : jw (f_X11_mountThen x1 x2 x3 x4 σ) (fun q => Q none (jh (jSrd S rd) q.2))) : jx_Sp (d + 1) 270 [.ref 65, .int x1, .int x2, .int x3, .int x4] (jh (jSrd S rd) σ) Q := by
  refine ⟨jm_i270, jm_at270, rfl, rfl, ?_⟩
  show jx_Ex _ jm_l270 jm_b270_0 [.ref 65, .int x1, .int x2, .int x3, .int x4] [] _ _
  unfold f_X11_mountThen at h
  refine xo_2 rfl ?_
  refine xm_33 (i := 4160) (q := 66) (jSrd_ok hS rd) ly65 rfl (xm_P (jSrd_ok hS rd) (by decide)) ?_
  refine xo_2 rfl ?_
  refine xm_33 (i := 4194) (q := 82) (jSrd_ok hS rd) ly65 rfl (xm_P (jSrd_ok hS rd) (by decide)) ?_
  refine xo_8 ?_
  refine xo_50 (st' := []) rfl rfl rfl (Nat.le_of_ble_eq_true rfl) ?_
  refine t_X11_lay_66_82 hS ?_
  refine jw_mono (jw_bind h) (fun q1 h => ?_)
  show jx_Ex _ _ _ _ [] (jh (jSrd S rd) q1.2) _
  refine xo_2 rfl ?_
  refine xm_33 (i := 4194) (q := 82) (jSrd_ok hS rd) ly65 rfl (xm_P (jSrd_ok hS rd) (by decide)) ?_
  refine xo_8 ?_
  refine xo_0 rfl ?_
  refine xm_41 (j := 0) (jSrd_ok hS rd) ly82 ⟨Nat.le_of_ble_eq_true rfl, Nat.le_of_ble_eq_true rfl⟩ (by decide) (by decide) ?_
  refine xo_2 rfl ?_
  refine xm_33 (i := 4194) (q := 82) (jSrd_ok hS rd) ly65 rfl (xm_P (jSrd_ok hS rd) (by decide)) ?_
  refine xo_8 ?_
  refine xo_0 rfl ?_
  refine xm_41 (j := 1) (jSrd_ok hS rd) ly82 ⟨Nat.le_of_ble_eq_true rfl, Nat.le_of_ble_eq_true rfl⟩ (by decide) (by decide) ?_
  refine xo_2 rfl ?_
  refine xm_33 (i := 4194) (q := 82) (jSrd_ok hS rd) ly65 rfl (xm_P (jSrd_ok hS rd) (by decide)) ?_
  refine xo_8 ?_
  refine xo_0 rfl ?_
  refine xm_41 (j := 2) (jSrd_ok hS rd) ly82 ⟨Nat.le_of_ble_eq_true rfl, Nat.le_of_ble_eq_true rfl⟩ (by decide) (by decide) ?_
  refine xo_2 rfl ?_
  refine xm_33 (i := 4194) (q := 82) (jSrd_ok hS rd) ly65 rfl (xm_P (jSrd_ok hS rd) (by decide)) ?_
  refine xo_8 ?_
  refine xo_8 ?_
  refine xm_41 (j := 3) (jSrd_ok hS rd) ly82 ⟨Nat.le_of_ble_eq_true rfl, Nat.le_of_ble_eq_true rfl⟩ (by decide) (by decide) ?_
  refine xo_1 rfl ?_
  refine xo_55 (t := jm_b270_49) rfl (fun hc2 => ?_) (fun hc2 => ?_)
  · replace h := jw_pos hc2 h
    replace h := jw_some h
    exact xo_71 h
  · replace h := jw_neg hc2 h
    refine xo_2 rfl ?_
    refine xo_49 (st' := []) rfl rfl (xm_ly (jSrd_ok hS rd) ly65) rfl (Nat.le_of_ble_eq_true rfl) ?_
    refine t_X11_freshen hS ?_
    refine jw_mono (jw_bind h) (fun q3 h => ?_)
    show jx_Ex _ _ _ _ [] (jh (jSrd S rd) q3.2) _
    replace h := jw_some h
    exact xo_71 h
