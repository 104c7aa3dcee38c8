/-! ===== methods as functions ===== -/
/-- Land.waysAt, at ['x.land', 'int'] -/
def f_X3_waysAt (x1 : Int32) (σ : jT) : Option (Int32 × jT) :=
  (f_X3_hasPlace x1 σ).bind fun q1 =>
  if q1.1 = 0 then
    some (0, q1.2)
  else
    if jx_in x1 10 then
    some ((q1.2.2 4 x1.toNatClampNeg), q1.2)
    else none
theorem t_X3_waysAt {S : jS} (hS : jCok S) {d : Nat} {Q : Option Value → jx_H → Prop} {x1 : Int32} {σ : jT} (h : jw (f_X3_waysAt x1 σ) (fun q => Q (some (.int q.1)) (jh S q.2))) : jx_Sp (d + 1) 33 [.ref 3, .int x1] (jh S σ) Q := by
  refine ⟨jm_i33, jm_at33, rfl, rfl, ?_⟩
  show jx_Ex _ jm_l33 jm_b33_0 [.ref 3, .int x1] [] _ _
  unfold f_X3_waysAt at h
  refine xo_2 rfl ?_
  refine xo_0 rfl ?_
  refine xo_49 (st' := []) rfl rfl (xc_ly hS ly3) rfl (Nat.le_of_ble_eq_true rfl) ?_
  refine t_X3_hasPlace hS ?_
  refine jw_mono (jw_bind h) (fun q1 h => ?_)
  show jx_Ex _ _ _ _ [.int q1.1] (jh S q1.2) _
  refine xo_55 (t := jm_b33_17) rfl (fun hc2 => ?_) (fun hc2 => ?_)
  · replace h := jw_pos hc2 h
    refine xo_8 ?_
    replace h := jw_some h
    exact xo_69 h
  · replace h := jw_neg hc2 h
    refine xo_2 rfl ?_
    refine xc_33 (i := 192) (q := 4) hS ly3 rfl (xc_P hS (by decide)) ?_
    refine xo_0 rfl ?_
    obtain ⟨hi3, h⟩ := jw_chk h
    refine xc_38 (j := x1.toNatClampNeg) (v := (q1.2.2 4 x1.toNatClampNeg)) hS ly4 ⟨Nat.le_of_ble_eq_true rfl, Nat.le_of_ble_eq_true rfl⟩ hi3 rfl rfl ?_
    refine xo_54 (t := jm_b33_18) rfl ?_
    replace h := jw_some h
    exact xo_69 h
/-- Standing.get, at ['x.now', 'int', 'int'] -/
def f_X8_get (x1 : Int32) (x2 : Int32) (σ : jT) : Option (Int32 × jT) :=
  if x2 < 0 then
    some ((-1), σ)
  else
    if 6 ≤ x2 then
      some ((-1), σ)
    else
      if jx_in (x1 + x2) 28 then
      some ((σ.2 13 (x1 + x2).toNatClampNeg), σ)
      else none
theorem t_X8_get {S : jS} (hS : jCok S) {d : Nat} {Q : Option Value → jx_H → Prop} {x1 : Int32} {x2 : Int32} {σ : jT} (h : jw (f_X8_get x1 x2 σ) (fun q => Q (some (.int q.1)) (jh S q.2))) : jx_Sp (d) 90 [.ref 12, .int x1, .int x2] (jh S σ) Q := by
  refine ⟨jm_i90, jm_at90, rfl, rfl, ?_⟩
  show jx_Ex _ jm_l90 jm_b90_0 [.ref 12, .int x1, .int x2] [] _ _
  unfold f_X8_get at h
  refine xo_0 rfl ?_
  refine xo_57 (t := jm_b90_21) rfl (fun hc1 => ?_) (fun hc1 => ?_)
  · replace h := jw_pos hc1 h
    refine xo_8 ?_
    replace h := jw_some h
    exact xo_69 h
  · replace h := jw_neg hc1 h
    refine xo_0 rfl ?_
    refine xo_9 ?_
    refine xo_64 (t := jm_b90_21) rfl (fun hc2 => ?_) (fun hc2 => ?_)
    · replace h := jw_pos hc2 h
      refine xo_8 ?_
      replace h := jw_some h
      exact xo_69 h
    · replace h := jw_neg hc2 h
      refine xo_2 rfl ?_
      refine xc_33 (i := 768) (q := 13) hS ly12 rfl (xc_P hS (by decide)) ?_
      refine xo_0 rfl ?_
      refine xo_0 rfl ?_
      refine xo_14 ?_
      obtain ⟨hi3, h⟩ := jw_chk h
      refine xc_38 (j := (x1 + x2).toNatClampNeg) (v := (σ.2 13 (x1 + x2).toNatClampNeg)) hS ly13 ⟨Nat.le_of_ble_eq_true rfl, Nat.le_of_ble_eq_true rfl⟩ hi3 rfl rfl ?_
      refine xo_54 (t := jm_b90_22) rfl ?_
      replace h := jw_some h
      exact xo_69 h
/-- Standing.convincerOf, at ['x.now', 'int'] -/
def f_X8_convincerOf (x1 : Int32) (σ : jT) : Option (Int32 × jT) :=
  (f_X8_get 12 x1 σ).bind fun q1 =>
  some (q1.1, q1.2)
theorem t_X8_convincerOf {S : jS} (hS : jCok S) {d : Nat} {Q : Option Value → jx_H → Prop} {x1 : Int32} {σ : jT} (h : jw (f_X8_convincerOf x1 σ) (fun q => Q (some (.int q.1)) (jh S q.2))) : jx_Sp (d + 1) 97 [.ref 12, .int x1] (jh S σ) Q := by
  refine ⟨jm_i97, jm_at97, rfl, rfl, ?_⟩
  show jx_Ex _ jm_l97 jm_b97_0 [.ref 12, .int x1] [] _ _
  unfold f_X8_convincerOf at h
  refine xo_2 rfl ?_
  refine xo_9 ?_
  refine xo_0 rfl ?_
  refine xo_49 (st' := []) rfl rfl (xc_ly hS ly12) rfl (Nat.le_of_ble_eq_true rfl) ?_
  refine t_X8_get hS ?_
  refine jw_mono (jw_bind h) (fun q1 h => ?_)
  show jx_Ex _ _ _ _ [.int q1.1] (jh S q1.2) _
  replace h := jw_some h
  exact xo_69 h
/-- Standing.mapOf, at ['x.now', 'int'] -/
def f_X8_mapOf (x1 : Int32) (σ : jT) : Option (Int32 × jT) :=
  (f_X8_get 18 x1 σ).bind fun q1 =>
  some (q1.1, q1.2)
theorem t_X8_mapOf {S : jS} (hS : jCok S) {d : Nat} {Q : Option Value → jx_H → Prop} {x1 : Int32} {σ : jT} (h : jw (f_X8_mapOf x1 σ) (fun q => Q (some (.int q.1)) (jh S q.2))) : jx_Sp (d + 1) 99 [.ref 12, .int x1] (jh S σ) Q := by
  refine ⟨jm_i99, jm_at99, rfl, rfl, ?_⟩
  show jx_Ex _ jm_l99 jm_b99_0 [.ref 12, .int x1] [] _ _
  unfold f_X8_mapOf at h
  refine xo_2 rfl ?_
  refine xo_9 ?_
  refine xo_0 rfl ?_
  refine xo_49 (st' := []) rfl rfl (xc_ly hS ly12) rfl (Nat.le_of_ble_eq_true rfl) ?_
  refine t_X8_get hS ?_
  refine jw_mono (jw_bind h) (fun q1 h => ?_)
  show jx_Ex _ _ _ _ [.int q1.1] (jh S q1.2) _
  replace h := jw_some h
  exact xo_69 h
/-- Standing.guidingMap, at ['x.now', 'int'] -/
def f_X8_guidingMap_b17 (s0 : Int32) (σ : jT) : Option (Int32 × jT) :=
  (f_X8_mapOf s0 σ).bind fun q1 =>
  some (q1.1, q1.2)
def f_X8_guidingMap (x1 : Int32) (σ : jT) : Option (Int32 × jT) :=
  (f_X8_convincerOf x1 σ).bind fun q1 =>
  if ¬ q1.1 = (-1) then
    f_X8_guidingMap_b17 q1.1 q1.2
  else
    f_X8_guidingMap_b17 x1 q1.2
theorem t_X8_guidingMap_b17 {S : jS} (hS : jCok S) {d : Nat} {Q : Option Value → jx_H → Prop} {s0 : Int32} {w0 : Value} {w1 : Value} {w2 : Value} {σ : jT} (h : jw (f_X8_guidingMap_b17 s0 σ) (fun q => Q (some (.int q.1)) (jh S q.2))) : jx_Ex (d + 2) jm_l100 jm_b100_17 [w0, w1, w2] [.int s0, .ref 12] (jh S σ) Q := by
  unfold f_X8_guidingMap_b17 at h
  refine xo_49 (st' := []) rfl rfl (xc_ly hS ly12) rfl (Nat.le_of_ble_eq_true rfl) ?_
  refine t_X8_mapOf hS ?_
  refine jw_mono (jw_bind h) (fun q1 h => ?_)
  show jx_Ex _ _ _ _ [.int q1.1] (jh S q1.2) _
  replace h := jw_some h
  exact xo_69 h
theorem t_X8_guidingMap {S : jS} (hS : jCok S) {d : Nat} {Q : Option Value → jx_H → Prop} {x1 : Int32} {σ : jT} (h : jw (f_X8_guidingMap x1 σ) (fun q => Q (some (.int q.1)) (jh S q.2))) : jx_Sp (d + 2) 100 [.ref 12, .int x1] (jh S σ) Q := by
  refine ⟨jm_i100, jm_at100, rfl, rfl, ?_⟩
  show jx_Ex _ jm_l100 jm_b100_0 [.ref 12, .int x1, .retAddr 0] [] _ _
  unfold f_X8_guidingMap at h
  refine xo_2 rfl ?_
  refine xo_0 rfl ?_
  refine xo_49 (st' := []) rfl rfl (xc_ly hS ly12) rfl (Nat.le_of_ble_eq_true rfl) ?_
  refine t_X8_convincerOf hS ?_
  refine jw_mono (jw_bind h) (fun q1 h => ?_)
  show jx_Ex _ _ _ _ [.int q1.1] (jh S q1.2) _
  refine xo_4 (ls' := [.ref 12, .int x1, .int q1.1]) rfl ?_
  refine xo_2 rfl ?_
  refine xo_0 rfl ?_
  refine xo_8 ?_
  refine xo_62 (t := jm_b100_16) rfl (fun hc2 => ?_) (fun hc2 => ?_)
  · replace h := jw_pos hc2 h
    refine xo_0 rfl ?_
    exact t_X8_guidingMap_b17 hS h
  · replace h := jw_neg hc2 h
    refine xo_0 rfl ?_
    refine xo_54 (t := jm_b100_17) rfl ?_
    exact t_X8_guidingMap_b17 hS h
/-- Land.viewOf, at ['x.land', 'int', 'int'] -/
def f_X3_viewOf_b18 (x1 : Int32) (x2 : Int32) (s0 : Int32) (σ : jT) : Option (Int32 × jT) :=
  if s0 ≤ 0 then
    some ((-1), σ)
  else
    if s0 = 0 then none else
    some ((((x1 >>> ((2 * x2) &&& 31)) &&& 3) - ((x1 >>> ((2 * x2) &&& 31)) &&& 3) / s0 * s0), σ)
def f_X3_viewOf (x1 : Int32) (x2 : Int32) (σ : jT) : Option (Int32 × jT) :=
  (f_X3_hasPlace x2 σ).bind fun q1 =>
  if q1.1 = 0 then
    f_X3_viewOf_b18 x1 x2 0 q1.2
  else
    if jx_in x2 10 then
    f_X3_viewOf_b18 x1 x2 (q1.2.2 4 x2.toNatClampNeg) q1.2
    else none
theorem t_X3_viewOf_b18 {S : jS} (hS : jCok S) {d : Nat} {Q : Option Value → jx_H → Prop} {x1 : Int32} {x2 : Int32} {s0 : Int32} {w0 : Value} {w3 : Value} {σ : jT} (h : jw (f_X3_viewOf_b18 x1 x2 s0 σ) (fun q => Q (some (.int q.1)) (jh S q.2))) : jx_Ex (d + 1) jm_l36 jm_b36_18 [w0, .int x1, .int x2, w3] [.int s0] (jh S σ) Q := by
  unfold f_X3_viewOf_b18 at h
  refine xo_4 (ls' := [w0, .int x1, .int x2, .int s0]) rfl ?_
  refine xo_0 rfl ?_
  refine xo_60 (t := jm_b36_35) rfl (fun hc1 => ?_) (fun hc1 => ?_)
  · replace h := jw_pos hc1 h
    refine xo_8 ?_
    replace h := jw_some h
    exact xo_69 h
  · replace h := jw_neg hc1 h
    refine xo_0 rfl ?_
    refine xo_8 ?_
    refine xo_0 rfl ?_
    refine xo_16 ?_
    refine xo_24 ?_
    refine xo_8 ?_
    refine xo_20 ?_
    refine xo_0 rfl ?_
    obtain ⟨hy2, h⟩ := jw_chn h
    refine xo_18 hy2 ?_
    refine xo_54 (t := jm_b36_36) rfl ?_
    replace h := jw_some h
    exact xo_69 h
theorem t_X3_viewOf {S : jS} (hS : jCok S) {d : Nat} {Q : Option Value → jx_H → Prop} {x1 : Int32} {x2 : Int32} {σ : jT} (h : jw (f_X3_viewOf x1 x2 σ) (fun q => Q (some (.int q.1)) (jh S q.2))) : jx_Sp (d + 1) 36 [.ref 3, .int x1, .int x2] (jh S σ) Q := by
  refine ⟨jm_i36, jm_at36, rfl, rfl, ?_⟩
  show jx_Ex _ jm_l36 jm_b36_0 [.ref 3, .int x1, .int x2, .retAddr 0] [] _ _
  unfold f_X3_viewOf at h
  refine xo_2 rfl ?_
  refine xo_0 rfl ?_
  refine xo_49 (st' := []) rfl rfl (xc_ly hS ly3) rfl (Nat.le_of_ble_eq_true rfl) ?_
  refine t_X3_hasPlace hS ?_
  refine jw_mono (jw_bind h) (fun q1 h => ?_)
  show jx_Ex _ _ _ _ [.int q1.1] (jh S q1.2) _
  refine xo_55 (t := jm_b36_17) rfl (fun hc2 => ?_) (fun hc2 => ?_)
  · replace h := jw_pos hc2 h
    refine xo_8 ?_
    exact t_X3_viewOf_b18 hS h
  · replace h := jw_neg hc2 h
    refine xo_2 rfl ?_
    refine xc_33 (i := 192) (q := 4) hS ly3 rfl (xc_P hS (by decide)) ?_
    refine xo_0 rfl ?_
    obtain ⟨hi3, h⟩ := jw_chk h
    refine xc_38 (j := x2.toNatClampNeg) (v := (q1.2.2 4 x2.toNatClampNeg)) hS ly4 ⟨Nat.le_of_ble_eq_true rfl, Nat.le_of_ble_eq_true rfl⟩ hi3 rfl rfl ?_
    refine xo_54 (t := jm_b36_18) rfl ?_
    exact t_X3_viewOf_b18 hS h
/-- OfDifferentMinds.viewAt, at ['x', 'int', 'int'] -/
def f_X10_viewAt (x1 : Int32) (x2 : Int32) (σ : jT) : Option (Int32 × jT) :=
  (f_X8_guidingMap x1 σ).bind fun q1 =>
  (f_X3_viewOf q1.1 x2 q1.2).bind fun q2 =>
  some (q2.1, q2.2)
theorem t_X10_viewAt {S : jS} (hS : jCok S) {d : Nat} {Q : Option Value → jx_H → Prop} {x1 : Int32} {x2 : Int32} {σ : jT} (h : jw (f_X10_viewAt x1 x2 σ) (fun q => Q (some (.int q.1)) (jh S q.2))) : jx_Sp (d + 3) 138 [.ref 0, .int x1, .int x2] (jh S σ) Q := by
  refine ⟨jm_i138, jm_at138, rfl, rfl, ?_⟩
  show jx_Ex _ jm_l138 jm_b138_0 [.ref 0, .int x1, .int x2] [] _ _
  unfold f_X10_viewAt at h
  refine xo_2 rfl ?_
  refine xc_33 (i := 1) (q := 3) hS ly0 rfl (xc_P hS (by decide)) ?_
  refine xo_2 rfl ?_
  refine xc_33 (i := 3) (q := 12) hS ly0 rfl (xc_P hS (by decide)) ?_
  refine xo_0 rfl ?_
  refine xo_49 (st' := [.ref 3]) rfl rfl (xc_ly hS ly12) rfl (Nat.le_of_ble_eq_true rfl) ?_
  refine t_X8_guidingMap hS ?_
  refine jw_mono (jw_bind h) (fun q1 h => ?_)
  show jx_Ex _ _ _ _ [.int q1.1, .ref 3] (jh S q1.2) _
  refine xo_0 rfl ?_
  refine xo_49 (st' := []) rfl rfl (xc_ly hS ly3) rfl (Nat.le_of_ble_eq_true rfl) ?_
  refine t_X3_viewOf hS ?_
  refine jw_mono (jw_bind h) (fun q2 h => ?_)
  show jx_Ex _ _ _ _ [.int q2.1] (jh S q2.2) _
  replace h := jw_some h
  exact xo_69 h
/-- OfDifferentMinds.view, at ['x', 'int', 'int'] -/
def f_X10_view (x1 : Int32) (x2 : Int32) (σ : jT) : Option (Int32 × jT) :=
  (f_X3_hasRider x1 σ).bind fun q1 =>
  if q1.1 = 0 then
    some ((-1), q1.2)
  else
    (f_X3_hasPlace x2 q1.2).bind fun q3 =>
    if ¬ q3.1 = 0 then
      (f_X3_waysAt x2 q3.2).bind fun q5 =>
      if ¬ q5.1 = 0 then
        (f_X10_viewAt x1 x2 q5.2).bind fun q7 =>
        some (q7.1, q7.2)
      else
        some ((-2), q5.2)
    else
      some ((-1), q3.2)
theorem t_X10_view {S : jS} (hS : jCok S) {d : Nat} {Q : Option Value → jx_H → Prop} {x1 : Int32} {x2 : Int32} {σ : jT} (h : jw (f_X10_view x1 x2 σ) (fun q => Q (some (.int q.1)) (jh S q.2))) : jx_Sp (d + 4) 139 [.ref 0, .int x1, .int x2] (jh S σ) Q := by
  refine ⟨jm_i139, jm_at139, rfl, rfl, ?_⟩
  show jx_Ex _ jm_l139 jm_b139_0 [.ref 0, .int x1, .int x2] [] _ _
  unfold f_X10_view at h
  refine xo_2 rfl ?_
  refine xc_33 (i := 1) (q := 3) hS ly0 rfl (xc_P hS (by decide)) ?_
  refine xo_0 rfl ?_
  refine xo_49 (st' := []) rfl rfl (xc_ly hS ly3) rfl (Nat.le_of_ble_eq_true rfl) ?_
  refine t_X3_hasRider hS ?_
  refine jw_mono (jw_bind h) (fun q1 h => ?_)
  show jx_Ex _ _ _ _ [.int q1.1] (jh S q1.2) _
  refine xo_55 (t := jm_b139_22) rfl (fun hc2 => ?_) (fun hc2 => ?_)
  · replace h := jw_pos hc2 h
    refine xo_8 ?_
    replace h := jw_some h
    exact xo_69 h
  · replace h := jw_neg hc2 h
    refine xo_2 rfl ?_
    refine xc_33 (i := 1) (q := 3) hS ly0 rfl (xc_P hS (by decide)) ?_
    refine xo_0 rfl ?_
    refine xo_49 (st' := []) rfl rfl (xc_ly hS ly3) rfl (Nat.le_of_ble_eq_true rfl) ?_
    refine t_X3_hasPlace hS ?_
    refine jw_mono (jw_bind h) (fun q3 h => ?_)
    show jx_Ex _ _ _ _ [.int q3.1] (jh S q3.2) _
    refine xo_56 (t := jm_b139_24) rfl (fun hc4 => ?_) (fun hc4 => ?_)
    · replace h := jw_pos hc4 h
      refine xo_2 rfl ?_
      refine xc_33 (i := 1) (q := 3) hS ly0 rfl (xc_P hS (by decide)) ?_
      refine xo_0 rfl ?_
      refine xo_49 (st' := []) rfl rfl (xc_ly hS ly3) rfl (Nat.le_of_ble_eq_true rfl) ?_
      refine t_X3_waysAt hS ?_
      refine jw_mono (jw_bind h) (fun q5 h => ?_)
      show jx_Ex _ _ _ _ [.int q5.1] (jh S q5.2) _
      refine xo_56 (t := jm_b139_40) rfl (fun hc6 => ?_) (fun hc6 => ?_)
      · replace h := jw_pos hc6 h
        refine xo_2 rfl ?_
        refine xo_0 rfl ?_
        refine xo_0 rfl ?_
        refine xo_49 (st' := []) rfl rfl (xc_ly hS ly0) rfl (Nat.le_of_ble_eq_true rfl) ?_
        refine t_X10_viewAt hS ?_
        refine jw_mono (jw_bind h) (fun q7 h => ?_)
        show jx_Ex _ _ _ _ [.int q7.1] (jh S q7.2) _
        replace h := jw_some h
        exact xo_69 h
      · replace h := jw_neg hc6 h
        refine xo_9 ?_
        refine xo_54 (t := jm_b139_46) rfl ?_
        replace h := jw_some h
        exact xo_69 h
    · replace h := jw_neg hc4 h
      refine xo_8 ?_
      replace h := jw_some h
      exact xo_69 h
/-- Standing.spentOf, at ['x.now', 'int'] -/
def f_X8_spentOf (x1 : Int32) (σ : jT) : Option (Int32 × jT) :=
  (f_X8_get 0 x1 σ).bind fun q1 =>
  some (q1.1, q1.2)
theorem t_X8_spentOf {S : jS} (hS : jCok S) {d : Nat} {Q : Option Value → jx_H → Prop} {x1 : Int32} {σ : jT} (h : jw (f_X8_spentOf x1 σ) (fun q => Q (some (.int q.1)) (jh S q.2))) : jx_Sp (d + 1) 93 [.ref 12, .int x1] (jh S σ) Q := by
  refine ⟨jm_i93, jm_at93, rfl, rfl, ?_⟩
  show jx_Ex _ jm_l93 jm_b93_0 [.ref 12, .int x1] [] _ _
  unfold f_X8_spentOf at h
  refine xo_2 rfl ?_
  refine xo_8 ?_
  refine xo_0 rfl ?_
  refine xo_49 (st' := []) rfl rfl (xc_ly hS ly12) rfl (Nat.le_of_ble_eq_true rfl) ?_
  refine t_X8_get hS ?_
  refine jw_mono (jw_bind h) (fun q1 h => ?_)
  show jx_Ex _ _ _ _ [.int q1.1] (jh S q1.2) _
  replace h := jw_some h
  exact xo_69 h
/-- Land.mindOf, at ['x.land', 'int'] -/
def f_X3_mindOf (x1 : Int32) (σ : jT) : Option (Int32 × jT) :=
  (f_X3_hasRider x1 σ).bind fun q1 =>
  if q1.1 = 0 then
    some (0, q1.2)
  else
    if jx_in x1 6 then
    some ((q1.2.2 6 x1.toNatClampNeg), q1.2)
    else none
theorem t_X3_mindOf {S : jS} (hS : jCok S) {d : Nat} {Q : Option Value → jx_H → Prop} {x1 : Int32} {σ : jT} (h : jw (f_X3_mindOf x1 σ) (fun q => Q (some (.int q.1)) (jh S q.2))) : jx_Sp (d + 1) 37 [.ref 3, .int x1] (jh S σ) Q := by
  refine ⟨jm_i37, jm_at37, rfl, rfl, ?_⟩
  show jx_Ex _ jm_l37 jm_b37_0 [.ref 3, .int x1] [] _ _
  unfold f_X3_mindOf at h
  refine xo_2 rfl ?_
  refine xo_0 rfl ?_
  refine xo_49 (st' := []) rfl rfl (xc_ly hS ly3) rfl (Nat.le_of_ble_eq_true rfl) ?_
  refine t_X3_hasRider hS ?_
  refine jw_mono (jw_bind h) (fun q1 h => ?_)
  show jx_Ex _ _ _ _ [.int q1.1] (jh S q1.2) _
  refine xo_55 (t := jm_b37_17) rfl (fun hc2 => ?_) (fun hc2 => ?_)
  · replace h := jw_pos hc2 h
    refine xo_8 ?_
    replace h := jw_some h
    exact xo_69 h
  · replace h := jw_neg hc2 h
    refine xo_2 rfl ?_
    refine xc_33 (i := 194) (q := 6) hS ly3 rfl (xc_P hS (by decide)) ?_
    refine xo_0 rfl ?_
    obtain ⟨hi3, h⟩ := jw_chk h
    refine xc_38 (j := x1.toNatClampNeg) (v := (q1.2.2 6 x1.toNatClampNeg)) hS ly6 ⟨Nat.le_of_ble_eq_true rfl, Nat.le_of_ble_eq_true rfl⟩ hi3 rfl rfl ?_
    refine xo_54 (t := jm_b37_18) rfl ?_
    replace h := jw_some h
    exact xo_69 h
/-- Standing.setSpent, at ['x.now', 'int', 'int'] -/
def f_X8_setSpent (x1 : Int32) (x2 : Int32) (σ : jT) : Option (Int32 × jT) :=
  (f_X8_set 0 x1 x2 σ).bind fun q1 =>
  some (0, q1.2)
theorem t_X8_setSpent {S : jS} (hS : jCok S) {d : Nat} {Q : Option Value → jx_H → Prop} {x1 : Int32} {x2 : Int32} {σ : jT} (h : jw (f_X8_setSpent x1 x2 σ) (fun q => Q none (jh S q.2))) : jx_Sp (d + 1) 94 [.ref 12, .int x1, .int x2] (jh S σ) Q := by
  refine ⟨jm_i94, jm_at94, rfl, rfl, ?_⟩
  show jx_Ex _ jm_l94 jm_b94_0 [.ref 12, .int x1, .int x2] [] _ _
  unfold f_X8_setSpent at h
  refine xo_2 rfl ?_
  refine xo_8 ?_
  refine xo_0 rfl ?_
  refine xo_0 rfl ?_
  refine xo_49 (st' := []) rfl rfl (xc_ly hS ly12) rfl (Nat.le_of_ble_eq_true rfl) ?_
  refine t_X8_set hS ?_
  refine jw_mono (jw_bind h) (fun q1 h => ?_)
  show jx_Ex _ _ _ _ [] (jh S q1.2) _
  replace h := jw_some h
  exact xo_71 h
/-- OfDifferentMinds.limitSpent, at ['x'] -/
def f_X10_limitSpent_b2 : Nat → Int32 → jT → Option (Int32 × jT)
  | 0, _, _ => none
  | n + 1, x1, σ =>
    (f_X3_riderCount σ).bind fun q1 =>
    if q1.1 ≤ x1 then
      some (0, q1.2)
    else
      (f_X8_spentOf x1 q1.2).bind fun q3 =>
      (f_X3_mindOf x1 q3.2).bind fun q4 =>
      (f_X8_setSpent x1 (jx_min q3.1 q4.1) q4.2).bind fun q5 =>
      f_X10_limitSpent_b2 n (x1 + 1) q5.2
def f_X10_limitSpent (σ : jT) : Option (Int32 × jT) :=
  f_X10_limitSpent_b2 1000 0 σ
theorem t_X10_limitSpent_b2 {S : jS} (hS : jCok S) {d : Nat} {Q : Option Value → jx_H → Prop} : ∀ (n : Nat) {x1 : Int32} {σ : jT}, jw (f_X10_limitSpent_b2 n x1 σ) (fun q => Q none (jh S q.2)) → jx_Ex (d + 2) jm_l142 jm_b142_2 [.ref 0, .int x1] [] (jh S σ) Q := by
  intro n
  induction n with
  | zero => intro x1 σ h; exact jw_none h
  | succ n ih =>
    intro x1 σ h
    rw [f_X10_limitSpent_b2] at h
    refine xo_0 rfl ?_
    refine xo_2 rfl ?_
    refine xc_33 (i := 1) (q := 3) hS ly0 rfl (xc_P hS (by decide)) ?_
    refine xo_49 (st' := [.int x1]) rfl rfl (xc_ly hS ly3) rfl (Nat.le_of_ble_eq_true rfl) ?_
    refine t_X3_riderCount hS ?_
    refine jw_mono (jw_bind h) (fun q1 h => ?_)
    show jx_Ex _ _ _ _ [.int q1.1, .int x1] (jh S q1.2) _
    refine xo_64 (t := jm_b142_46) rfl (fun hc2 => ?_) (fun hc2 => ?_)
    · replace h := jw_pos hc2 h
      replace h := jw_some h
      exact xo_71 h
    · replace h := jw_neg hc2 h
      refine xo_2 rfl ?_
      refine xc_33 (i := 3) (q := 12) hS ly0 rfl (xc_P hS (by decide)) ?_
      refine xo_0 rfl ?_
      refine xo_2 rfl ?_
      refine xc_33 (i := 3) (q := 12) hS ly0 rfl (xc_P hS (by decide)) ?_
      refine xo_0 rfl ?_
      refine xo_49 (st' := [.int x1, .ref 12]) rfl rfl (xc_ly hS ly12) rfl (Nat.le_of_ble_eq_true rfl) ?_
      refine t_X8_spentOf hS ?_
      refine jw_mono (jw_bind h) (fun q3 h => ?_)
      show jx_Ex _ _ _ _ [.int q3.1, .int x1, .ref 12] (jh S q3.2) _
      refine xo_2 rfl ?_
      refine xc_33 (i := 1) (q := 3) hS ly0 rfl (xc_P hS (by decide)) ?_
      refine xo_0 rfl ?_
      refine xo_49 (st' := [.int q3.1, .int x1, .ref 12]) rfl rfl (xc_ly hS ly3) rfl (Nat.le_of_ble_eq_true rfl) ?_
      refine t_X3_mindOf hS ?_
      refine jw_mono (jw_bind h) (fun q4 h => ?_)
      show jx_Ex _ _ _ _ [.int q4.1, .int q3.1, .int x1, .ref 12] (jh S q4.2) _
      refine xo_73 (Nat.le_of_ble_eq_true rfl) ?_
      refine xo_49 (st' := []) rfl rfl (xc_ly hS ly12) rfl (Nat.le_of_ble_eq_true rfl) ?_
      refine t_X8_setSpent hS ?_
      refine jw_mono (jw_bind h) (fun q5 h => ?_)
      show jx_Ex _ _ _ _ [] (jh S q5.2) _
      refine xo_13 (ls' := [.ref 0, .int (x1 + 1)]) rfl rfl ?_
      refine xo_54 (t := jm_b142_2) rfl ?_
      exact ih h
theorem t_X10_limitSpent {S : jS} (hS : jCok S) {d : Nat} {Q : Option Value → jx_H → Prop} {σ : jT} (h : jw (f_X10_limitSpent σ) (fun q => Q none (jh S q.2))) : jx_Sp (d + 2) 142 [.ref 0] (jh S σ) Q := by
  refine ⟨jm_i142, jm_at142, rfl, rfl, ?_⟩
  show jx_Ex _ jm_l142 jm_b142_0 [.ref 0, .retAddr 0] [] _ _
  unfold f_X10_limitSpent at h
  refine xo_8 ?_
  refine xo_4 (ls' := [.ref 0, .int 0]) rfl ?_
  exact t_X10_limitSpent_b2 hS 1000 h
/-- Land.setMind, at ['x.land', 'int', 'int'] -/
def f_X3_setMind (x1 : Int32) (x2 : Int32) (σ : jT) : Option (Int32 × jT) :=
  (f_X3_hasRider x1 σ).bind fun q1 =>
  if q1.1 = 0 then
    some (0, q1.2)
  else
    if jx_in x1 6 then
    some (0, (gA q1.2 6 x1.toNatClampNeg x2))
    else none
theorem t_X3_setMind {S : jS} (hS : jCok S) {d : Nat} {Q : Option Value → jx_H → Prop} {x1 : Int32} {x2 : Int32} {σ : jT} (h : jw (f_X3_setMind x1 x2 σ) (fun q => Q none (jh S q.2))) : jx_Sp (d + 1) 38 [.ref 3, .int x1, .int x2] (jh S σ) Q := by
  refine ⟨jm_i38, jm_at38, rfl, rfl, ?_⟩
  show jx_Ex _ jm_l38 jm_b38_0 [.ref 3, .int x1, .int x2] [] _ _
  unfold f_X3_setMind at h
  refine xo_2 rfl ?_
  refine xo_0 rfl ?_
  refine xo_49 (st' := []) rfl rfl (xc_ly hS ly3) rfl (Nat.le_of_ble_eq_true rfl) ?_
  refine t_X3_hasRider hS ?_
  refine jw_mono (jw_bind h) (fun q1 h => ?_)
  show jx_Ex _ _ _ _ [.int q1.1] (jh S q1.2) _
  refine xo_55 (t := jm_b38_15) rfl (fun hc2 => ?_) (fun hc2 => ?_)
  · replace h := jw_pos hc2 h
    replace h := jw_some h
    exact xo_71 h
  · replace h := jw_neg hc2 h
    refine xo_2 rfl ?_
    refine xc_33 (i := 194) (q := 6) hS ly3 rfl (xc_P hS (by decide)) ?_
    refine xo_0 rfl ?_
    refine xo_0 rfl ?_
    obtain ⟨hi3, h⟩ := jw_chk h
    refine xc_41 (j := x1.toNatClampNeg) hS ly6 ⟨Nat.le_of_ble_eq_true rfl, Nat.le_of_ble_eq_true rfl⟩ hi3 rfl ?_
    replace h := jw_some h
    exact xo_71 h
/-- OfDifferentMinds.entryMind, at ['int', 'int'] -/
def f_X10_entryMind_b20 (x2 : Int32) (σ : jT) : Option (Int32 × jT) :=
  some ((jx_max 1 (jx_min 99 x2)), σ)
def f_X10_entryMind (x0 : Int32) (x1 : Int32) (σ : jT) : Option (Int32 × jT) :=
  if ¬ x0 = 0 then
    if ¬ x0 = 1 then
      f_X10_entryMind_b20 x1 σ
    else
      f_X10_entryMind_b20 x1.toInt16.toInt32 σ
  else
    f_X10_entryMind_b20 x1.toInt8.toInt32 σ
theorem t_X10_entryMind_b20 {S : jS} (hS : jCok S) {d : Nat} {Q : Option Value → jx_H → Prop} {x2 : Int32} {w0 : Value} {w1 : Value} {σ : jT} (h : jw (f_X10_entryMind_b20 x2 σ) (fun q => Q (some (.int q.1)) (jh S q.2))) : jx_Ex (d) jm_l141 jm_b141_20 [w0, w1, .int x2] [] (jh S σ) Q := by
  unfold f_X10_entryMind_b20 at h
  refine xo_8 ?_
  refine xo_9 ?_
  refine xo_0 rfl ?_
  refine xo_73 (Nat.le_of_ble_eq_true rfl) ?_
  refine xo_72 (Nat.le_of_ble_eq_true rfl) ?_
  replace h := jw_some h
  exact xo_69 h
theorem t_X10_entryMind {S : jS} (hS : jCok S) {d : Nat} {Q : Option Value → jx_H → Prop} {x0 : Int32} {x1 : Int32} {σ : jT} (h : jw (f_X10_entryMind x0 x1 σ) (fun q => Q (some (.int q.1)) (jh S q.2))) : jx_Sp (d) 141 [.int x0, .int x1] (jh S σ) Q := by
  refine ⟨jm_i141, jm_at141, rfl, rfl, ?_⟩
  show jx_Ex _ jm_l141 jm_b141_0 [.int x0, .int x1, .retAddr 0] [] _ _
  unfold f_X10_entryMind at h
  refine xo_0 rfl ?_
  refine xo_4 (ls' := [.int x0, .int x1, .int x1]) rfl ?_
  refine xo_0 rfl ?_
  refine xo_56 (t := jm_b141_12) rfl (fun hc1 => ?_) (fun hc1 => ?_)
  · replace h := jw_pos hc1 h
    refine xo_0 rfl ?_
    refine xo_8 ?_
    refine xo_62 (t := jm_b141_20) rfl (fun hc2 => ?_) (fun hc2 => ?_)
    · replace h := jw_pos hc2 h
      exact t_X10_entryMind_b20 hS h
    · replace h := jw_neg hc2 h
      refine xo_0 rfl ?_
      refine xo_27 ?_
      refine xo_4 (ls' := [.int x0, .int x1, .int x1.toInt16.toInt32]) rfl ?_
      exact t_X10_entryMind_b20 hS h
  · replace h := jw_neg hc1 h
    refine xo_0 rfl ?_
    refine xo_26 ?_
    refine xo_4 (ls' := [.int x0, .int x1, .int x1.toInt8.toInt32]) rfl ?_
    refine xo_54 (t := jm_b141_20) rfl ?_
    exact t_X10_entryMind_b20 hS h
/-- OfDifferentMinds.sheet, at ['x', 'int', 'int', 'int', 'int'] -/
def f_X10_sheet_b81 (k47 : Int32 → Int32 → Int32 → Int32 → Int32 → Int32 → jT → Option (Int32 × jT)) (x1 : Int32) (x3 : Int32) (x4 : Int32) (x5 : Int32) (x6 : Int32) (x7 : Int32) (s0 : Int32) (σ : jT) : Option (Int32 × jT) :=
  (f_X3_setMind x7 s0 σ).bind fun q1 =>
  k47 x1 x3 x4 x5 (x6 + s0) (x7 + 1) q1.2
def f_X10_sheet_b47 : Nat → Int32 → Int32 → Int32 → Int32 → Int32 → Int32 → jT → Option (Int32 × jT)
  | 0, _, _, _, _, _, _, _ => none
  | n + 1, x1, x3, x4, x5, x6, x7, σ =>
    (f_X3_riderCount σ).bind fun q1 =>
    if q1.1 ≤ x7 then
      (f_X10_limitSpent q1.2).bind fun q3 =>
      if ¬ x1 = 3 then
        some (x6, q3.2)
      else
        some ((-3), q3.2)
    else
      if x5 ≤ x7 then
        f_X10_sheet_b81 (f_X10_sheet_b47 n) x1 x3 x4 x5 x6 x7 1 q1.2
      else
        (f_X10_entryMind x1 (x3 + (x7 * x4)) q1.2).bind fun q6 =>
        f_X10_sheet_b81 (f_X10_sheet_b47 n) x1 x3 x4 x5 x6 x7 q6.1 q6.2
def f_X10_sheet_b39 (x1 : Int32) (x3 : Int32) (x4 : Int32) (s0 : Int32) (σ : jT) : Option (Int32 × jT) :=
  f_X10_sheet_b47 1000 x1 x3 x4 s0 0 0 σ
def f_X10_sheet_b29 (x1 : Int32) (x2 : Int32) (x3 : Int32) (x4 : Int32) (σ : jT) : Option (Int32 × jT) :=
  if ¬ x1 = 3 then
    f_X10_sheet_b39 x1 x3 x4 x2 σ
  else
    f_X10_sheet_b39 x1 x3 x4 0 σ
def f_X10_sheet (x1 : Int32) (x2 : Int32) (x3 : Int32) (x4 : Int32) (σ : jT) : Option (Int32 × jT) :=
  if x1 < 0 then
    some ((-1), σ)
  else
    if 3 < x1 then
      some ((-1), σ)
    else
      if x2 ≤ 6 then
        if x1 = 3 then
          f_X10_sheet_b29 x1 x2 x3 x4 σ
        else
          if 0 ≤ x2 then
            f_X10_sheet_b29 x1 x2 x3 x4 σ
          else
            some ((-2), σ)
      else
        some ((-1), σ)
theorem t_X10_sheet_b81 {S : jS} (hS : jCok S) {d : Nat} {Q : Option Value → jx_H → Prop} {k47 : Int32 → Int32 → Int32 → Int32 → Int32 → Int32 → jT → Option (Int32 × jT)} (hk47 : ∀ {x1 : Int32} {x3 : Int32} {x4 : Int32} {x5 : Int32} {x6 : Int32} {x7 : Int32} {w2 : Value} {w8 : Value} {σ : jT}, jw (k47 x1 x3 x4 x5 x6 x7 σ) (fun q => Q (some (.int q.1)) (jh S q.2)) → jx_Ex (d + 3) jm_l140 jm_b140_47 [.ref 0, .int x1, w2, .int x3, .int x4, .int x5, .int x6, .int x7, w8] [] (jh S σ) Q) {x1 : Int32} {x3 : Int32} {x4 : Int32} {x5 : Int32} {x6 : Int32} {x7 : Int32} {s0 : Int32} {w2 : Value} {w8 : Value} {σ : jT} (h : jw (f_X10_sheet_b81 k47 x1 x3 x4 x5 x6 x7 s0 σ) (fun q => Q (some (.int q.1)) (jh S q.2))) : jx_Ex (d + 3) jm_l140 jm_b140_81 [.ref 0, .int x1, w2, .int x3, .int x4, .int x5, .int x6, .int x7, w8] [.int s0] (jh S σ) Q := by
  unfold f_X10_sheet_b81 at h
  refine xo_5 (ls' := [.ref 0, .int x1, w2, .int x3, .int x4, .int x5, .int x6, .int x7, .int s0]) rfl ?_
  refine xo_2 rfl ?_
  refine xc_33 (i := 1) (q := 3) hS ly0 rfl (xc_P hS (by decide)) ?_
  refine xo_1 rfl ?_
  refine xo_1 rfl ?_
  refine xo_49 (st' := []) rfl rfl (xc_ly hS ly3) rfl (Nat.le_of_ble_eq_true rfl) ?_
  refine t_X3_setMind hS ?_
  refine jw_mono (jw_bind h) (fun q1 h => ?_)
  show jx_Ex _ _ _ _ [] (jh S q1.2) _
  refine xo_1 rfl ?_
  refine xo_1 rfl ?_
  refine xo_14 ?_
  refine xo_5 (ls' := [.ref 0, .int x1, w2, .int x3, .int x4, .int x5, .int (x6 + s0), .int x7, .int s0]) rfl ?_
  refine xo_13 (ls' := [.ref 0, .int x1, w2, .int x3, .int x4, .int x5, .int (x6 + s0), .int (x7 + 1), .int s0]) rfl rfl ?_
  refine xo_54 (t := jm_b140_47) rfl ?_
  exact hk47 h
theorem t_X10_sheet_b47 {S : jS} (hS : jCok S) {d : Nat} {Q : Option Value → jx_H → Prop} : ∀ (n : Nat) {x1 : Int32} {x3 : Int32} {x4 : Int32} {x5 : Int32} {x6 : Int32} {x7 : Int32} {w2 : Value} {w8 : Value} {σ : jT}, jw (f_X10_sheet_b47 n x1 x3 x4 x5 x6 x7 σ) (fun q => Q (some (.int q.1)) (jh S q.2)) → jx_Ex (d + 3) jm_l140 jm_b140_47 [.ref 0, .int x1, w2, .int x3, .int x4, .int x5, .int x6, .int x7, w8] [] (jh S σ) Q := by
  intro n
  induction n with
  | zero => intro x1 x3 x4 x5 x6 x7 w2 w8 σ h; exact jw_none h
  | succ n ih =>
    intro x1 x3 x4 x5 x6 x7 w2 w8 σ h
    rw [f_X10_sheet_b47] at h
    refine xo_1 rfl ?_
    refine xo_2 rfl ?_
    refine xc_33 (i := 1) (q := 3) hS ly0 rfl (xc_P hS (by decide)) ?_
    refine xo_49 (st' := [.int x7]) rfl rfl (xc_ly hS ly3) rfl (Nat.le_of_ble_eq_true rfl) ?_
    refine t_X3_riderCount hS ?_
    refine jw_mono (jw_bind h) (fun q1 h => ?_)
    show jx_Ex _ _ _ _ [.int q1.1, .int x7] (jh S q1.2) _
    refine xo_64 (t := jm_b140_107) rfl (fun hc2 => ?_) (fun hc2 => ?_)
    · replace h := jw_pos hc2 h
      refine xo_2 rfl ?_
      refine xo_49 (st' := []) rfl rfl (xc_ly hS ly0) rfl (Nat.le_of_ble_eq_true rfl) ?_
      refine t_X10_limitSpent hS ?_
      refine jw_mono (jw_bind h) (fun q3 h => ?_)
      show jx_Ex _ _ _ _ [] (jh S q3.2) _
      refine xo_0 rfl ?_
      refine xo_8 ?_
      refine xo_62 (t := jm_b140_121) rfl (fun hc4 => ?_) (fun hc4 => ?_)
      · replace h := jw_pos hc4 h
        refine xo_1 rfl ?_
        replace h := jw_some h
        exact xo_69 h
      · replace h := jw_neg hc4 h
        refine xo_9 ?_
        refine xo_54 (t := jm_b140_123) rfl ?_
        replace h := jw_some h
        exact xo_69 h
    · replace h := jw_neg hc2 h
      refine xo_1 rfl ?_
      refine xo_1 rfl ?_
      refine xo_64 (t := jm_b140_80) rfl (fun hc5 => ?_) (fun hc5 => ?_)
      · replace h := jw_pos hc5 h
        refine xo_8 ?_
        exact t_X10_sheet_b81 hS ih h
      · replace h := jw_neg hc5 h
        refine xo_0 rfl ?_
        refine xo_0 rfl ?_
        refine xo_1 rfl ?_
        refine xo_1 rfl ?_
        refine xo_16 ?_
        refine xo_14 ?_
        refine xo_50 (st' := []) rfl rfl rfl (Nat.le_of_ble_eq_true rfl) ?_
        refine t_X10_entryMind hS ?_
        refine jw_mono (jw_bind h) (fun q6 h => ?_)
        show jx_Ex _ _ _ _ [.int q6.1] (jh S q6.2) _
        refine xo_54 (t := jm_b140_81) rfl ?_
        exact t_X10_sheet_b81 hS ih h
theorem t_X10_sheet_b39 {S : jS} (hS : jCok S) {d : Nat} {Q : Option Value → jx_H → Prop} {x1 : Int32} {x3 : Int32} {x4 : Int32} {s0 : Int32} {w2 : Value} {w5 : Value} {w6 : Value} {w7 : Value} {w8 : Value} {σ : jT} (h : jw (f_X10_sheet_b39 x1 x3 x4 s0 σ) (fun q => Q (some (.int q.1)) (jh S q.2))) : jx_Ex (d + 3) jm_l140 jm_b140_39 [.ref 0, .int x1, w2, .int x3, .int x4, w5, w6, w7, w8] [.int s0] (jh S σ) Q := by
  unfold f_X10_sheet_b39 at h
  refine xo_5 (ls' := [.ref 0, .int x1, w2, .int x3, .int x4, .int s0, w6, w7, w8]) rfl ?_
  refine xo_8 ?_
  refine xo_5 (ls' := [.ref 0, .int x1, w2, .int x3, .int x4, .int s0, .int 0, w7, w8]) rfl ?_
  refine xo_8 ?_
  refine xo_5 (ls' := [.ref 0, .int x1, w2, .int x3, .int x4, .int s0, .int 0, .int 0, w8]) rfl ?_
  exact t_X10_sheet_b47 hS 1000 h
theorem t_X10_sheet_b29 {S : jS} (hS : jCok S) {d : Nat} {Q : Option Value → jx_H → Prop} {x1 : Int32} {x2 : Int32} {x3 : Int32} {x4 : Int32} {w5 : Value} {w6 : Value} {w7 : Value} {w8 : Value} {σ : jT} (h : jw (f_X10_sheet_b29 x1 x2 x3 x4 σ) (fun q => Q (some (.int q.1)) (jh S q.2))) : jx_Ex (d + 3) jm_l140 jm_b140_29 [.ref 0, .int x1, .int x2, .int x3, .int x4, w5, w6, w7, w8] [] (jh S σ) Q := by
  unfold f_X10_sheet_b29 at h
  refine xo_0 rfl ?_
  refine xo_8 ?_
  refine xo_62 (t := jm_b140_38) rfl (fun hc1 => ?_) (fun hc1 => ?_)
  · replace h := jw_pos hc1 h
    refine xo_0 rfl ?_
    exact t_X10_sheet_b39 hS h
  · replace h := jw_neg hc1 h
    refine xo_8 ?_
    refine xo_54 (t := jm_b140_39) rfl ?_
    exact t_X10_sheet_b39 hS h
theorem t_X10_sheet {S : jS} (hS : jCok S) {d : Nat} {Q : Option Value → jx_H → Prop} {x1 : Int32} {x2 : Int32} {x3 : Int32} {x4 : Int32} {σ : jT} (h : jw (f_X10_sheet x1 x2 x3 x4 σ) (fun q => Q (some (.int q.1)) (jh S q.2))) : jx_Sp (d + 3) 140 [.ref 0, .int x1, .int x2, .int x3, .int x4] (jh S σ) Q := by
  refine ⟨jm_i140, jm_at140, rfl, rfl, ?_⟩
  show jx_Ex _ jm_l140 jm_b140_0 [.ref 0, .int x1, .int x2, .int x3, .int x4, .retAddr 0, .retAddr 0, .retAddr 0, .retAddr 0] [] _ _
  unfold f_X10_sheet at h
  refine xo_0 rfl ?_
  refine xo_57 (t := jm_b140_15) rfl (fun hc1 => ?_) (fun hc1 => ?_)
  · replace h := jw_pos hc1 h
    refine xo_8 ?_
    replace h := jw_some h
    exact xo_69 h
  · replace h := jw_neg hc1 h
    refine xo_0 rfl ?_
    refine xo_8 ?_
    refine xo_65 (t := jm_b140_15) rfl (fun hc2 => ?_) (fun hc2 => ?_)
    · replace h := jw_pos hc2 h
      refine xo_8 ?_
      replace h := jw_some h
      exact xo_69 h
    · replace h := jw_neg hc2 h
      refine xo_0 rfl ?_
      refine xo_9 ?_
      refine xo_66 (t := jm_b140_17) rfl (fun hc3 => ?_) (fun hc3 => ?_)
      · replace h := jw_pos hc3 h
        refine xo_0 rfl ?_
        refine xo_8 ?_
        refine xo_61 (t := jm_b140_29) rfl (fun hc4 => ?_) (fun hc4 => ?_)
        · replace h := jw_pos hc4 h
          exact t_X10_sheet_b29 hS h
        · replace h := jw_neg hc4 h
          refine xo_0 rfl ?_
          refine xo_58 (t := jm_b140_29) rfl (fun hc5 => ?_) (fun hc5 => ?_)
          · replace h := jw_pos hc5 h
            exact t_X10_sheet_b29 hS h
          · replace h := jw_neg hc5 h
            refine xo_9 ?_
            replace h := jw_some h
            exact xo_69 h
      · replace h := jw_neg hc3 h
        refine xo_8 ?_
        replace h := jw_some h
        exact xo_69 h
/-- Standing.copy, at ['x.history.past[0]', 'x.now'] -/
def f_X8_copy_at16_12 (σ : jT) : Option (Int32 × jT) :=
  some (0, (gC σ 13 17 0 0 28))
theorem t_X8_copy_at16_12 {S : jS} (hS : jCok S) {d : Nat} {Q : Option Value → jx_H → Prop} {σ : jT} (h : jw (f_X8_copy_at16_12 σ) (fun q => Q none (jh S q.2))) : jx_Sp (d) 89 [.ref 16, .ref 12] (jh S σ) Q := by
  refine ⟨jm_i89, jm_at89, rfl, rfl, ?_⟩
  show jx_Ex _ jm_l89 jm_b89_0 [.ref 16, .ref 12] [] _ _
  unfold f_X8_copy_at16_12 at h
  refine xo_2 rfl ?_
  refine xc_33 (i := 768) (q := 13) hS ly12 rfl (xc_P hS (by decide)) ?_
  refine xo_8 ?_
  refine xo_2 rfl ?_
  refine xc_33 (i := 1024) (q := 17) hS ly16 rfl (xc_P hS (by decide)) ?_
  refine xo_8 ?_
  refine xo_9 ?_
  refine xc_53 (sp' := 0) (dp' := 0) (n' := 28) hS ly13 ly17 ⟨Nat.le_of_ble_eq_true rfl, Nat.le_of_ble_eq_true rfl⟩ ⟨Nat.le_of_ble_eq_true rfl, Nat.le_of_ble_eq_true rfl⟩ (by decide) (by decide) (by decide) (by decide) (by decide) (by decide) (Nat.le_of_ble_eq_true rfl) ?_
  replace h := jw_some h
  exact xo_71 h
/-- Standing.copy, at ['x.history.past[1]', 'x.now'] -/
def f_X8_copy_at18_12 (σ : jT) : Option (Int32 × jT) :=
  some (0, (gC σ 13 19 0 0 28))
theorem t_X8_copy_at18_12 {S : jS} (hS : jCok S) {d : Nat} {Q : Option Value → jx_H → Prop} {σ : jT} (h : jw (f_X8_copy_at18_12 σ) (fun q => Q none (jh S q.2))) : jx_Sp (d) 89 [.ref 18, .ref 12] (jh S σ) Q := by
  refine ⟨jm_i89, jm_at89, rfl, rfl, ?_⟩
  show jx_Ex _ jm_l89 jm_b89_0 [.ref 18, .ref 12] [] _ _
  unfold f_X8_copy_at18_12 at h
  refine xo_2 rfl ?_
  refine xc_33 (i := 768) (q := 13) hS ly12 rfl (xc_P hS (by decide)) ?_
  refine xo_8 ?_
  refine xo_2 rfl ?_
  refine xc_33 (i := 1152) (q := 19) hS ly18 rfl (xc_P hS (by decide)) ?_
  refine xo_8 ?_
  refine xo_9 ?_
  refine xc_53 (sp' := 0) (dp' := 0) (n' := 28) hS ly13 ly19 ⟨Nat.le_of_ble_eq_true rfl, Nat.le_of_ble_eq_true rfl⟩ ⟨Nat.le_of_ble_eq_true rfl, Nat.le_of_ble_eq_true rfl⟩ (by decide) (by decide) (by decide) (by decide) (by decide) (by decide) (Nat.le_of_ble_eq_true rfl) ?_
  replace h := jw_some h
  exact xo_71 h
/-- Standing.copy, at ['x.history.past[2]', 'x.now'] -/
def f_X8_copy_at20_12 (σ : jT) : Option (Int32 × jT) :=
  some (0, (gC σ 13 21 0 0 28))
theorem t_X8_copy_at20_12 {S : jS} (hS : jCok S) {d : Nat} {Q : Option Value → jx_H → Prop} {σ : jT} (h : jw (f_X8_copy_at20_12 σ) (fun q => Q none (jh S q.2))) : jx_Sp (d) 89 [.ref 20, .ref 12] (jh S σ) Q := by
  refine ⟨jm_i89, jm_at89, rfl, rfl, ?_⟩
  show jx_Ex _ jm_l89 jm_b89_0 [.ref 20, .ref 12] [] _ _
  unfold f_X8_copy_at20_12 at h
  refine xo_2 rfl ?_
  refine xc_33 (i := 768) (q := 13) hS ly12 rfl (xc_P hS (by decide)) ?_
  refine xo_8 ?_
  refine xo_2 rfl ?_
  refine xc_33 (i := 1280) (q := 21) hS ly20 rfl (xc_P hS (by decide)) ?_
  refine xo_8 ?_
  refine xo_9 ?_
  refine xc_53 (sp' := 0) (dp' := 0) (n' := 28) hS ly13 ly21 ⟨Nat.le_of_ble_eq_true rfl, Nat.le_of_ble_eq_true rfl⟩ ⟨Nat.le_of_ble_eq_true rfl, Nat.le_of_ble_eq_true rfl⟩ (by decide) (by decide) (by decide) (by decide) (by decide) (by decide) (Nat.le_of_ble_eq_true rfl) ?_
  replace h := jw_some h
  exact xo_71 h
/-- Standing.copy, at ['x.history.past[3]', 'x.now'] -/
def f_X8_copy_at22_12 (σ : jT) : Option (Int32 × jT) :=
  some (0, (gC σ 13 23 0 0 28))
theorem t_X8_copy_at22_12 {S : jS} (hS : jCok S) {d : Nat} {Q : Option Value → jx_H → Prop} {σ : jT} (h : jw (f_X8_copy_at22_12 σ) (fun q => Q none (jh S q.2))) : jx_Sp (d) 89 [.ref 22, .ref 12] (jh S σ) Q := by
  refine ⟨jm_i89, jm_at89, rfl, rfl, ?_⟩
  show jx_Ex _ jm_l89 jm_b89_0 [.ref 22, .ref 12] [] _ _
  unfold f_X8_copy_at22_12 at h
  refine xo_2 rfl ?_
  refine xc_33 (i := 768) (q := 13) hS ly12 rfl (xc_P hS (by decide)) ?_
  refine xo_8 ?_
  refine xo_2 rfl ?_
  refine xc_33 (i := 1408) (q := 23) hS ly22 rfl (xc_P hS (by decide)) ?_
  refine xo_8 ?_
  refine xo_9 ?_
  refine xc_53 (sp' := 0) (dp' := 0) (n' := 28) hS ly13 ly23 ⟨Nat.le_of_ble_eq_true rfl, Nat.le_of_ble_eq_true rfl⟩ ⟨Nat.le_of_ble_eq_true rfl, Nat.le_of_ble_eq_true rfl⟩ (by decide) (by decide) (by decide) (by decide) (by decide) (by decide) (Nat.le_of_ble_eq_true rfl) ?_
  replace h := jw_some h
  exact xo_71 h
/-- Standing.copy, at ['x.history.past[4]', 'x.now'] -/
def f_X8_copy_at24_12 (σ : jT) : Option (Int32 × jT) :=
  some (0, (gC σ 13 25 0 0 28))
theorem t_X8_copy_at24_12 {S : jS} (hS : jCok S) {d : Nat} {Q : Option Value → jx_H → Prop} {σ : jT} (h : jw (f_X8_copy_at24_12 σ) (fun q => Q none (jh S q.2))) : jx_Sp (d) 89 [.ref 24, .ref 12] (jh S σ) Q := by
  refine ⟨jm_i89, jm_at89, rfl, rfl, ?_⟩
  show jx_Ex _ jm_l89 jm_b89_0 [.ref 24, .ref 12] [] _ _
  unfold f_X8_copy_at24_12 at h
  refine xo_2 rfl ?_
  refine xc_33 (i := 768) (q := 13) hS ly12 rfl (xc_P hS (by decide)) ?_
  refine xo_8 ?_
  refine xo_2 rfl ?_
  refine xc_33 (i := 1536) (q := 25) hS ly24 rfl (xc_P hS (by decide)) ?_
  refine xo_8 ?_
  refine xo_9 ?_
  refine xc_53 (sp' := 0) (dp' := 0) (n' := 28) hS ly13 ly25 ⟨Nat.le_of_ble_eq_true rfl, Nat.le_of_ble_eq_true rfl⟩ ⟨Nat.le_of_ble_eq_true rfl, Nat.le_of_ble_eq_true rfl⟩ (by decide) (by decide) (by decide) (by decide) (by decide) (by decide) (Nat.le_of_ble_eq_true rfl) ?_
  replace h := jw_some h
  exact xo_71 h
/-- Standing.copy, at ['x.history.past[5]', 'x.now'] -/
def f_X8_copy_at26_12 (σ : jT) : Option (Int32 × jT) :=
  some (0, (gC σ 13 27 0 0 28))
theorem t_X8_copy_at26_12 {S : jS} (hS : jCok S) {d : Nat} {Q : Option Value → jx_H → Prop} {σ : jT} (h : jw (f_X8_copy_at26_12 σ) (fun q => Q none (jh S q.2))) : jx_Sp (d) 89 [.ref 26, .ref 12] (jh S σ) Q := by
  refine ⟨jm_i89, jm_at89, rfl, rfl, ?_⟩
  show jx_Ex _ jm_l89 jm_b89_0 [.ref 26, .ref 12] [] _ _
  unfold f_X8_copy_at26_12 at h
  refine xo_2 rfl ?_
  refine xc_33 (i := 768) (q := 13) hS ly12 rfl (xc_P hS (by decide)) ?_
  refine xo_8 ?_
  refine xo_2 rfl ?_
  refine xc_33 (i := 1664) (q := 27) hS ly26 rfl (xc_P hS (by decide)) ?_
  refine xo_8 ?_
  refine xo_9 ?_
  refine xc_53 (sp' := 0) (dp' := 0) (n' := 28) hS ly13 ly27 ⟨Nat.le_of_ble_eq_true rfl, Nat.le_of_ble_eq_true rfl⟩ ⟨Nat.le_of_ble_eq_true rfl, Nat.le_of_ble_eq_true rfl⟩ (by decide) (by decide) (by decide) (by decide) (by decide) (by decide) (Nat.le_of_ble_eq_true rfl) ?_
  replace h := jw_some h
  exact xo_71 h
/-- Standing.copy, at ['x.history.past[6]', 'x.now'] -/
def f_X8_copy_at28_12 (σ : jT) : Option (Int32 × jT) :=
  some (0, (gC σ 13 29 0 0 28))
theorem t_X8_copy_at28_12 {S : jS} (hS : jCok S) {d : Nat} {Q : Option Value → jx_H → Prop} {σ : jT} (h : jw (f_X8_copy_at28_12 σ) (fun q => Q none (jh S q.2))) : jx_Sp (d) 89 [.ref 28, .ref 12] (jh S σ) Q := by
  refine ⟨jm_i89, jm_at89, rfl, rfl, ?_⟩
  show jx_Ex _ jm_l89 jm_b89_0 [.ref 28, .ref 12] [] _ _
  unfold f_X8_copy_at28_12 at h
  refine xo_2 rfl ?_
  refine xc_33 (i := 768) (q := 13) hS ly12 rfl (xc_P hS (by decide)) ?_
  refine xo_8 ?_
  refine xo_2 rfl ?_
  refine xc_33 (i := 1792) (q := 29) hS ly28 rfl (xc_P hS (by decide)) ?_
  refine xo_8 ?_
  refine xo_9 ?_
  refine xc_53 (sp' := 0) (dp' := 0) (n' := 28) hS ly13 ly29 ⟨Nat.le_of_ble_eq_true rfl, Nat.le_of_ble_eq_true rfl⟩ ⟨Nat.le_of_ble_eq_true rfl, Nat.le_of_ble_eq_true rfl⟩ (by decide) (by decide) (by decide) (by decide) (by decide) (by decide) (Nat.le_of_ble_eq_true rfl) ?_
  replace h := jw_some h
  exact xo_71 h
/-- Standing.copy, at ['x.history.past[7]', 'x.now'] -/
def f_X8_copy_at30_12 (σ : jT) : Option (Int32 × jT) :=
  some (0, (gC σ 13 31 0 0 28))
theorem t_X8_copy_at30_12 {S : jS} (hS : jCok S) {d : Nat} {Q : Option Value → jx_H → Prop} {σ : jT} (h : jw (f_X8_copy_at30_12 σ) (fun q => Q none (jh S q.2))) : jx_Sp (d) 89 [.ref 30, .ref 12] (jh S σ) Q := by
  refine ⟨jm_i89, jm_at89, rfl, rfl, ?_⟩
  show jx_Ex _ jm_l89 jm_b89_0 [.ref 30, .ref 12] [] _ _
  unfold f_X8_copy_at30_12 at h
  refine xo_2 rfl ?_
  refine xc_33 (i := 768) (q := 13) hS ly12 rfl (xc_P hS (by decide)) ?_
  refine xo_8 ?_
  refine xo_2 rfl ?_
  refine xc_33 (i := 1920) (q := 31) hS ly30 rfl (xc_P hS (by decide)) ?_
  refine xo_8 ?_
  refine xo_9 ?_
  refine xc_53 (sp' := 0) (dp' := 0) (n' := 28) hS ly13 ly31 ⟨Nat.le_of_ble_eq_true rfl, Nat.le_of_ble_eq_true rfl⟩ ⟨Nat.le_of_ble_eq_true rfl, Nat.le_of_ble_eq_true rfl⟩ (by decide) (by decide) (by decide) (by decide) (by decide) (by decide) (Nat.le_of_ble_eq_true rfl) ?_
  replace h := jw_some h
  exact xo_71 h
/-- Standing.copy, at ['x.history.past[8]', 'x.now'] -/
def f_X8_copy_at32_12 (σ : jT) : Option (Int32 × jT) :=
  some (0, (gC σ 13 33 0 0 28))
theorem t_X8_copy_at32_12 {S : jS} (hS : jCok S) {d : Nat} {Q : Option Value → jx_H → Prop} {σ : jT} (h : jw (f_X8_copy_at32_12 σ) (fun q => Q none (jh S q.2))) : jx_Sp (d) 89 [.ref 32, .ref 12] (jh S σ) Q := by
  refine ⟨jm_i89, jm_at89, rfl, rfl, ?_⟩
  show jx_Ex _ jm_l89 jm_b89_0 [.ref 32, .ref 12] [] _ _
  unfold f_X8_copy_at32_12 at h
  refine xo_2 rfl ?_
  refine xc_33 (i := 768) (q := 13) hS ly12 rfl (xc_P hS (by decide)) ?_
  refine xo_8 ?_
  refine xo_2 rfl ?_
  refine xc_33 (i := 2048) (q := 33) hS ly32 rfl (xc_P hS (by decide)) ?_
  refine xo_8 ?_
  refine xo_9 ?_
  refine xc_53 (sp' := 0) (dp' := 0) (n' := 28) hS ly13 ly33 ⟨Nat.le_of_ble_eq_true rfl, Nat.le_of_ble_eq_true rfl⟩ ⟨Nat.le_of_ble_eq_true rfl, Nat.le_of_ble_eq_true rfl⟩ (by decide) (by decide) (by decide) (by decide) (by decide) (by decide) (Nat.le_of_ble_eq_true rfl) ?_
  replace h := jw_some h
  exact xo_71 h
