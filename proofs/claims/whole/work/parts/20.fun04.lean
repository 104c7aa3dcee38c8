/-! ===== methods as functions ===== -/
/-- Ride.wayBy, at ['x.trial', 'int', 'int'] -/
def f_X5_wayBy (x1 : Int32) (x2 : Int32) (σ : jT) : Option (Int32 × jT) :=
  (f_X3_waysAt (σ.1 3144) σ).bind fun q1 =>
  if x1 = x2 then
    some ((-1), q1.2)
  else
    if ¬ q1.1 = 0 then
      (f_X7_setFacts q1.1 (q1.2.1 3144) ((q1.2.1 3145) + (q1.2.1 3146)) (q1.2.2 51 0) (q1.2.2 51 1) q1.2).bind fun q4 =>
      (f_X7_tells x1 x2 q4.2).bind fun q5 =>
      some (q5.1, q5.2)
    else
      some ((-1), q1.2)
theorem t_X5_wayBy {S : jS} (hS : jCok S) {d : Nat} {Q : Option Value → jx_H → Prop} {x1 : Int32} {x2 : Int32} {σ : jT} (h : jw (f_X5_wayBy x1 x2 σ) (fun q => Q (some (.int q.1)) (jh S q.2))) : jx_Sp (d + 2) 58 [.ref 49, .int x1, .int x2] (jh S σ) Q := by
  refine ⟨jm_i58, jm_at58, rfl, rfl, ?_⟩
  show jx_Ex _ jm_l58 jm_b58_0 [.ref 49, .int x1, .int x2, .retAddr 0] [] _ _
  unfold f_X5_wayBy at h
  refine xo_2 rfl ?_
  refine xc_33 (i := 3136) (q := 3) hS ly49 rfl (xc_P hS (by decide)) ?_
  refine xo_2 rfl ?_
  refine xc_32 (i := 3144) (v := (σ.1 3144)) hS ly49 rfl ⟨Nat.le_of_ble_eq_true rfl, Nat.le_of_ble_eq_true rfl⟩ rfl ?_
  refine xo_49 (st' := []) rfl rfl (xc_ly hS ly3) rfl (Nat.le_of_ble_eq_true rfl) ?_
  refine t_X3_waysAt hS ?_
  refine jw_mono (jw_bind h) (fun q1 h => ?_)
  show jx_Ex _ _ _ _ [.int q1.1] (jh S q1.2) _
  refine xo_4 (ls' := [.ref 49, .int x1, .int x2, .int q1.1]) rfl ?_
  refine xo_0 rfl ?_
  refine xo_0 rfl ?_
  refine xo_61 (t := jm_b58_21) rfl (fun hc2 => ?_) (fun hc2 => ?_)
  · replace h := jw_pos hc2 h
    refine xo_8 ?_
    replace h := jw_some h
    exact xo_69 h
  · replace h := jw_neg hc2 h
    refine xo_0 rfl ?_
    refine xo_56 (t := jm_b58_23) rfl (fun hc3 => ?_) (fun hc3 => ?_)
    · replace h := jw_pos hc3 h
      refine xo_2 rfl ?_
      refine xc_33 (i := 3137) (q := 7) hS ly49 rfl (xc_P hS (by decide)) ?_
      refine xo_0 rfl ?_
      refine xo_2 rfl ?_
      refine xc_32 (i := 3144) (v := (q1.2.1 3144)) hS ly49 rfl ⟨Nat.le_of_ble_eq_true rfl, Nat.le_of_ble_eq_true rfl⟩ rfl ?_
      refine xo_2 rfl ?_
      refine xc_32 (i := 3145) (v := (q1.2.1 3145)) hS ly49 rfl ⟨Nat.le_of_ble_eq_true rfl, Nat.le_of_ble_eq_true rfl⟩ rfl ?_
      refine xo_2 rfl ?_
      refine xc_32 (i := 3146) (v := (q1.2.1 3146)) hS ly49 rfl ⟨Nat.le_of_ble_eq_true rfl, Nat.le_of_ble_eq_true rfl⟩ rfl ?_
      refine xo_14 ?_
      refine xo_2 rfl ?_
      refine xc_33 (i := 3140) (q := 51) hS ly49 rfl (xc_P hS (by decide)) ?_
      refine xo_8 ?_
      refine xc_38 (j := 0) (v := (q1.2.2 51 0)) hS ly51 ⟨Nat.le_of_ble_eq_true rfl, Nat.le_of_ble_eq_true rfl⟩ (by decide) (by decide) rfl ?_
      refine xo_2 rfl ?_
      refine xc_33 (i := 3140) (q := 51) hS ly49 rfl (xc_P hS (by decide)) ?_
      refine xo_8 ?_
      refine xc_38 (j := 1) (v := (q1.2.2 51 1)) hS ly51 ⟨Nat.le_of_ble_eq_true rfl, Nat.le_of_ble_eq_true rfl⟩ (by decide) (by decide) rfl ?_
      refine xo_49 (st' := []) rfl rfl (xc_ly hS ly7) rfl (Nat.le_of_ble_eq_true rfl) ?_
      refine t_X7_setFacts hS ?_
      refine jw_mono (jw_bind h) (fun q4 h => ?_)
      show jx_Ex _ _ _ _ [] (jh S q4.2) _
      refine xo_2 rfl ?_
      refine xc_33 (i := 3137) (q := 7) hS ly49 rfl (xc_P hS (by decide)) ?_
      refine xo_0 rfl ?_
      refine xo_0 rfl ?_
      refine xo_49 (st' := []) rfl rfl (xc_ly hS ly7) rfl (Nat.le_of_ble_eq_true rfl) ?_
      refine t_X7_tells hS ?_
      refine jw_mono (jw_bind h) (fun q5 h => ?_)
      show jx_Ex _ _ _ _ [.int q5.1] (jh S q5.2) _
      replace h := jw_some h
      exact xo_69 h
    · replace h := jw_neg hc3 h
      refine xo_8 ?_
      replace h := jw_some h
      exact xo_69 h
/-- Land.leadsTo, at ['x.land', 'int', 'int'] -/
def f_X3_leadsTo_b27 (x1 : Int32) (x2 : Int32) (s0 : Int32) (σ : jT) : Option (Int32 × jT) :=
  if s0 = 0 then
    some ((-1), σ)
  else
    if jx_in ((x1 * 3) + x2) 30 then
    some ((σ.2 5 ((x1 * 3) + x2).toNatClampNeg), σ)
    else none
def f_X3_leadsTo_b26 (x1 : Int32) (x2 : Int32) (σ : jT) : Option (Int32 × jT) :=
  f_X3_leadsTo_b27 x1 x2 0 σ
def f_X3_leadsTo (x1 : Int32) (x2 : Int32) (σ : jT) : Option (Int32 × jT) :=
  (f_X3_hasPlace x1 σ).bind fun q1 =>
  if q1.1 = 0 then
    f_X3_leadsTo_b26 x1 x2 q1.2
  else
    if x2 < 0 then
      f_X3_leadsTo_b26 x1 x2 q1.2
    else
      if jx_in x1 10 then
      if (q1.2.2 4 x1.toNatClampNeg) ≤ x2 then
        f_X3_leadsTo_b26 x1 x2 q1.2
      else
        f_X3_leadsTo_b27 x1 x2 1 q1.2
      else none
theorem t_X3_leadsTo_b27 {S : jS} (hS : jCok S) {d : Nat} {Q : Option Value → jx_H → Prop} {x1 : Int32} {x2 : Int32} {s0 : Int32} {w3 : Value} {σ : jT} (h : jw (f_X3_leadsTo_b27 x1 x2 s0 σ) (fun q => Q (some (.int q.1)) (jh S q.2))) : jx_Ex (d + 1) jm_l35 jm_b35_27 [.ref 3, .int x1, .int x2, w3] [.int s0] (jh S σ) Q := by
  unfold f_X3_leadsTo_b27 at h
  refine xo_4 (ls' := [.ref 3, .int x1, .int x2, .int s0]) rfl ?_
  refine xo_0 rfl ?_
  refine xo_55 (t := jm_b35_45) rfl (fun hc1 => ?_) (fun hc1 => ?_)
  · replace h := jw_pos hc1 h
    refine xo_8 ?_
    replace h := jw_some h
    exact xo_69 h
  · replace h := jw_neg hc1 h
    refine xo_2 rfl ?_
    refine xc_33 (i := 193) (q := 5) hS ly3 rfl (xc_P hS (by decide)) ?_
    refine xo_0 rfl ?_
    refine xo_8 ?_
    refine xo_16 ?_
    refine xo_0 rfl ?_
    refine xo_14 ?_
    obtain ⟨hi2, h⟩ := jw_chk h
    refine xc_38 (j := ((x1 * 3) + x2).toNatClampNeg) (v := (σ.2 5 ((x1 * 3) + x2).toNatClampNeg)) hS ly5 ⟨Nat.le_of_ble_eq_true rfl, Nat.le_of_ble_eq_true rfl⟩ hi2 rfl rfl ?_
    refine xo_54 (t := jm_b35_46) rfl ?_
    replace h := jw_some h
    exact xo_69 h
theorem t_X3_leadsTo_b26 {S : jS} (hS : jCok S) {d : Nat} {Q : Option Value → jx_H → Prop} {x1 : Int32} {x2 : Int32} {w3 : Value} {σ : jT} (h : jw (f_X3_leadsTo_b26 x1 x2 σ) (fun q => Q (some (.int q.1)) (jh S q.2))) : jx_Ex (d + 1) jm_l35 jm_b35_26 [.ref 3, .int x1, .int x2, w3] [] (jh S σ) Q := by
  unfold f_X3_leadsTo_b26 at h
  refine xo_8 ?_
  exact t_X3_leadsTo_b27 hS h
theorem t_X3_leadsTo {S : jS} (hS : jCok S) {d : Nat} {Q : Option Value → jx_H → Prop} {x1 : Int32} {x2 : Int32} {σ : jT} (h : jw (f_X3_leadsTo x1 x2 σ) (fun q => Q (some (.int q.1)) (jh S q.2))) : jx_Sp (d + 1) 35 [.ref 3, .int x1, .int x2] (jh S σ) Q := by
  refine ⟨jm_i35, jm_at35, rfl, rfl, ?_⟩
  show jx_Ex _ jm_l35 jm_b35_0 [.ref 3, .int x1, .int x2, .retAddr 0] [] _ _
  unfold f_X3_leadsTo at h
  refine xo_2 rfl ?_
  refine xo_0 rfl ?_
  refine xo_49 (st' := []) rfl rfl (xc_ly hS ly3) rfl (Nat.le_of_ble_eq_true rfl) ?_
  refine t_X3_hasPlace hS ?_
  refine jw_mono (jw_bind h) (fun q1 h => ?_)
  show jx_Ex _ _ _ _ [.int q1.1] (jh S q1.2) _
  refine xo_55 (t := jm_b35_26) rfl (fun hc2 => ?_) (fun hc2 => ?_)
  · replace h := jw_pos hc2 h
    exact t_X3_leadsTo_b26 hS h
  · replace h := jw_neg hc2 h
    refine xo_0 rfl ?_
    refine xo_57 (t := jm_b35_26) rfl (fun hc3 => ?_) (fun hc3 => ?_)
    · replace h := jw_pos hc3 h
      exact t_X3_leadsTo_b26 hS h
    · replace h := jw_neg hc3 h
      refine xo_0 rfl ?_
      refine xo_2 rfl ?_
      refine xc_33 (i := 192) (q := 4) hS ly3 rfl (xc_P hS (by decide)) ?_
      refine xo_0 rfl ?_
      obtain ⟨hi4, h⟩ := jw_chk h
      refine xc_38 (j := x1.toNatClampNeg) (v := (q1.2.2 4 x1.toNatClampNeg)) hS ly4 ⟨Nat.le_of_ble_eq_true rfl, Nat.le_of_ble_eq_true rfl⟩ hi4 rfl rfl ?_
      refine xo_64 (t := jm_b35_26) rfl (fun hc5 => ?_) (fun hc5 => ?_)
      · replace h := jw_pos hc5 h
        exact t_X3_leadsTo_b26 hS h
      · replace h := jw_neg hc5 h
        refine xo_8 ?_
        refine xo_54 (t := jm_b35_27) rfl ?_
        exact t_X3_leadsTo_b27 hS h
/-- Ride.wear, at ['x.trial'] -/
def f_X5_wear_b20 (s0 : Int32) (σ : jT) : Option (Int32 × jT) :=
  if jx_in s0 2 then
  if (σ.2 52 s0.toNatClampNeg) = (-1) then
    if ¬ (jx_max ((σ.2 51 s0.toNatClampNeg) - 1) 0) = 0 then
      some (0, (gA σ 51 s0.toNatClampNeg (jx_max ((σ.2 51 s0.toNatClampNeg) - 1) 0)))
    else
      if jx_in (1 - s0) 2 then
      some (0, (gs (gA (gA (gA σ 51 s0.toNatClampNeg (jx_max ((σ.2 51 s0.toNatClampNeg) - 1) 0)) 52 s0.toNatClampNeg (σ.2 50 (1 - s0).toNatClampNeg)) 54 s0.toNatClampNeg (σ.2 53 (1 - s0).toNatClampNeg)) 3147 (σ.2 50 s0.toNatClampNeg)))
      else none
  else
    some (0, σ)
  else none
def f_X5_wear (σ : jT) : Option (Int32 × jT) :=
  if (σ.2 51 1) ≤ (σ.2 51 0) then
    f_X5_wear_b20 1 σ
  else
    f_X5_wear_b20 0 σ
theorem t_X5_wear_b20 {S : jS} (hS : jCok S) {d : Nat} {Q : Option Value → jx_H → Prop} {s0 : Int32} {w1 : Value} {σ : jT} (h : jw (f_X5_wear_b20 s0 σ) (fun q => Q none (jh S q.2))) : jx_Ex (d) jm_l63 jm_b63_20 [.ref 49, w1] [.int s0] (jh S σ) Q := by
  unfold f_X5_wear_b20 at h
  refine xo_4 (ls' := [.ref 49, .int s0]) rfl ?_
  refine xo_2 rfl ?_
  refine xc_33 (i := 3141) (q := 52) hS ly49 rfl (xc_P hS (by decide)) ?_
  refine xo_0 rfl ?_
  obtain ⟨hi1, h⟩ := jw_chk h
  refine xc_38 (j := s0.toNatClampNeg) (v := (σ.2 52 s0.toNatClampNeg)) hS ly52 ⟨Nat.le_of_ble_eq_true rfl, Nat.le_of_ble_eq_true rfl⟩ hi1 rfl rfl ?_
  refine xo_8 ?_
  refine xo_61 (t := jm_b63_32) rfl (fun hc2 => ?_) (fun hc2 => ?_)
  · replace h := jw_pos hc2 h
    refine xo_2 rfl ?_
    refine xc_33 (i := 3140) (q := 51) hS ly49 rfl (xc_P hS (by decide)) ?_
    refine xo_0 rfl ?_
    refine xo_2 rfl ?_
    refine xc_33 (i := 3140) (q := 51) hS ly49 rfl (xc_P hS (by decide)) ?_
    refine xo_0 rfl ?_
    refine xc_38 (j := s0.toNatClampNeg) (v := (σ.2 51 s0.toNatClampNeg)) hS ly51 ⟨Nat.le_of_ble_eq_true rfl, Nat.le_of_ble_eq_true rfl⟩ hi1 rfl rfl ?_
    refine xo_8 ?_
    refine xo_15 ?_
    refine xo_8 ?_
    refine xo_72 (Nat.le_of_ble_eq_true rfl) ?_
    refine xc_41 (j := s0.toNatClampNeg) hS ly51 ⟨Nat.le_of_ble_eq_true rfl, Nat.le_of_ble_eq_true rfl⟩ hi1 rfl ?_
    refine xo_2 rfl ?_
    refine xc_33 (i := 3140) (q := 51) hS ly49 rfl (xc_P hS (by decide)) ?_
    refine xo_0 rfl ?_
    refine xc_38 (j := s0.toNatClampNeg) (v := (jx_max ((σ.2 51 s0.toNatClampNeg) - 1) 0)) hS ly51 ⟨Nat.le_of_ble_eq_true rfl, Nat.le_of_ble_eq_true rfl⟩ hi1 rfl (by simp [gA, gs, jx_up2, jx_up]) ?_
    refine xo_56 (t := jm_b63_97) rfl (fun hc3 => ?_) (fun hc3 => ?_)
    · replace h := jw_pos hc3 h
      replace h := jw_some h
      exact xo_71 h
    · replace h := jw_neg hc3 h
      refine xo_2 rfl ?_
      refine xc_33 (i := 3141) (q := 52) hS ly49 rfl (xc_P hS (by decide)) ?_
      refine xo_0 rfl ?_
      refine xo_2 rfl ?_
      refine xc_33 (i := 3139) (q := 50) hS ly49 rfl (xc_P hS (by decide)) ?_
      refine xo_8 ?_
      refine xo_0 rfl ?_
      refine xo_15 ?_
      obtain ⟨hi4, h⟩ := jw_chk h
      refine xc_38 (j := (1 - s0).toNatClampNeg) (v := (σ.2 50 (1 - s0).toNatClampNeg)) hS ly50 ⟨Nat.le_of_ble_eq_true rfl, Nat.le_of_ble_eq_true rfl⟩ hi4 rfl rfl ?_
      refine xc_41 (j := s0.toNatClampNeg) hS ly52 ⟨Nat.le_of_ble_eq_true rfl, Nat.le_of_ble_eq_true rfl⟩ hi1 rfl ?_
      refine xo_2 rfl ?_
      refine xc_33 (i := 3143) (q := 54) hS ly49 rfl (xc_P hS (by decide)) ?_
      refine xo_0 rfl ?_
      refine xo_2 rfl ?_
      refine xc_33 (i := 3142) (q := 53) hS ly49 rfl (xc_P hS (by decide)) ?_
      refine xo_8 ?_
      refine xo_0 rfl ?_
      refine xo_15 ?_
      refine xc_38 (j := (1 - s0).toNatClampNeg) (v := (σ.2 53 (1 - s0).toNatClampNeg)) hS ly53 ⟨Nat.le_of_ble_eq_true rfl, Nat.le_of_ble_eq_true rfl⟩ hi4 rfl rfl ?_
      refine xc_41 (j := s0.toNatClampNeg) hS ly54 ⟨Nat.le_of_ble_eq_true rfl, Nat.le_of_ble_eq_true rfl⟩ hi1 rfl ?_
      refine xo_2 rfl ?_
      refine xo_2 rfl ?_
      refine xc_33 (i := 3139) (q := 50) hS ly49 rfl (xc_P hS (by decide)) ?_
      refine xo_0 rfl ?_
      refine xc_38 (j := s0.toNatClampNeg) (v := (σ.2 50 s0.toNatClampNeg)) hS ly50 ⟨Nat.le_of_ble_eq_true rfl, Nat.le_of_ble_eq_true rfl⟩ hi1 rfl rfl ?_
      refine xc_34 (i := 3147) hS ly49 rfl ⟨Nat.le_of_ble_eq_true rfl, Nat.le_of_ble_eq_true rfl⟩ ?_
      replace h := jw_some h
      exact xo_71 h
  · replace h := jw_neg hc2 h
    replace h := jw_some h
    exact xo_71 h
theorem t_X5_wear {S : jS} (hS : jCok S) {d : Nat} {Q : Option Value → jx_H → Prop} {σ : jT} (h : jw (f_X5_wear σ) (fun q => Q none (jh S q.2))) : jx_Sp (d) 63 [.ref 49] (jh S σ) Q := by
  refine ⟨jm_i63, jm_at63, rfl, rfl, ?_⟩
  show jx_Ex _ jm_l63 jm_b63_0 [.ref 49, .retAddr 0] [] _ _
  unfold f_X5_wear at h
  refine xo_2 rfl ?_
  refine xc_33 (i := 3140) (q := 51) hS ly49 rfl (xc_P hS (by decide)) ?_
  refine xo_8 ?_
  refine xc_38 (j := 0) (v := (σ.2 51 0)) hS ly51 ⟨Nat.le_of_ble_eq_true rfl, Nat.le_of_ble_eq_true rfl⟩ (by decide) (by decide) rfl ?_
  refine xo_2 rfl ?_
  refine xc_33 (i := 3140) (q := 51) hS ly49 rfl (xc_P hS (by decide)) ?_
  refine xo_8 ?_
  refine xc_38 (j := 1) (v := (σ.2 51 1)) hS ly51 ⟨Nat.le_of_ble_eq_true rfl, Nat.le_of_ble_eq_true rfl⟩ (by decide) (by decide) rfl ?_
  refine xo_64 (t := jm_b63_19) rfl (fun hc1 => ?_) (fun hc1 => ?_)
  · replace h := jw_pos hc1 h
    refine xo_8 ?_
    exact t_X5_wear_b20 hS h
  · replace h := jw_neg hc1 h
    refine xo_8 ?_
    refine xo_54 (t := jm_b63_20) rfl ?_
    exact t_X5_wear_b20 hS h
/-- Ride.goBy, at ['x.trial', 'int'] -/
def f_X5_goBy (x1 : Int32) (σ : jT) : Option (Int32 × jT) :=
  (f_X3_leadsTo (σ.1 3144) x1 σ).bind fun q1 =>
  if ¬ q1.1 = (-1) then
    (f_X5_wear (gs (gs q1.2 3144 q1.1) 3146 ((q1.2.1 3146) + 1))).bind fun q3 =>
    some (1, q3.2)
  else
    some (0, (gs q1.2 3148 1))
theorem t_X5_goBy {S : jS} (hS : jCok S) {d : Nat} {Q : Option Value → jx_H → Prop} {x1 : Int32} {σ : jT} (h : jw (f_X5_goBy x1 σ) (fun q => Q (some (.int q.1)) (jh S q.2))) : jx_Sp (d + 2) 62 [.ref 49, .int x1] (jh S σ) Q := by
  refine ⟨jm_i62, jm_at62, rfl, rfl, ?_⟩
  show jx_Ex _ jm_l62 jm_b62_0 [.ref 49, .int x1, .retAddr 0] [] _ _
  unfold f_X5_goBy at h
  refine xo_2 rfl ?_
  refine xc_33 (i := 3136) (q := 3) hS ly49 rfl (xc_P hS (by decide)) ?_
  refine xo_2 rfl ?_
  refine xc_32 (i := 3144) (v := (σ.1 3144)) hS ly49 rfl ⟨Nat.le_of_ble_eq_true rfl, Nat.le_of_ble_eq_true rfl⟩ rfl ?_
  refine xo_0 rfl ?_
  refine xo_49 (st' := []) rfl rfl (xc_ly hS ly3) rfl (Nat.le_of_ble_eq_true rfl) ?_
  refine t_X3_leadsTo hS ?_
  refine jw_mono (jw_bind h) (fun q1 h => ?_)
  show jx_Ex _ _ _ _ [.int q1.1] (jh S q1.2) _
  refine xo_4 (ls' := [.ref 49, .int x1, .int q1.1]) rfl ?_
  refine xo_0 rfl ?_
  refine xo_8 ?_
  refine xo_62 (t := jm_b62_25) rfl (fun hc2 => ?_) (fun hc2 => ?_)
  · replace h := jw_pos hc2 h
    refine xo_2 rfl ?_
    refine xo_0 rfl ?_
    refine xc_34 (i := 3144) hS ly49 rfl ⟨Nat.le_of_ble_eq_true rfl, Nat.le_of_ble_eq_true rfl⟩ ?_
    refine xo_2 rfl ?_
    refine xo_28r ?_
    refine xc_32 (i := 3146) (v := (q1.2.1 3146)) hS ly49 rfl ⟨Nat.le_of_ble_eq_true rfl, Nat.le_of_ble_eq_true rfl⟩ rfl ?_
    refine xo_8 ?_
    refine xo_14 ?_
    refine xc_34 (i := 3146) hS ly49 rfl ⟨Nat.le_of_ble_eq_true rfl, Nat.le_of_ble_eq_true rfl⟩ ?_
    refine xo_2 rfl ?_
    refine xo_49 (st' := []) rfl rfl (xc_ly hS ly49) rfl (Nat.le_of_ble_eq_true rfl) ?_
    refine t_X5_wear hS ?_
    refine jw_mono (jw_bind h) (fun q3 h => ?_)
    show jx_Ex _ _ _ _ [] (jh S q3.2) _
    refine xo_8 ?_
    replace h := jw_some h
    exact xo_70 (by decide) h
  · replace h := jw_neg hc2 h
    refine xo_2 rfl ?_
    refine xo_8 ?_
    refine xc_35 (i := 3148) hS ly49 rfl ⟨Nat.le_of_ble_eq_true rfl, Nat.le_of_ble_eq_true rfl⟩ (by decide) ?_
    refine xo_8 ?_
    replace h := jw_some h
    exact xo_70 (by decide) h
/-- Ride.step, at ['x.trial'] -/
def f_X5_step (σ : jT) : Option (Int32 × jT) :=
  (f_X3_viewOf (σ.2 54 0) (σ.1 3144) σ).bind fun q1 =>
  (f_X3_viewOf (q1.2.2 54 1) (q1.2.1 3144) q1.2).bind fun q2 =>
  (f_X5_wayBy q1.1 q2.1 q2.2).bind fun q3 =>
  (f_X5_goBy q3.1 q3.2).bind fun q4 =>
  if q4.1 = 0 ∨ q4.1 = 1 then
  some (q4.1, q4.2)
  else none
theorem t_X5_step {S : jS} (hS : jCok S) {d : Nat} {Q : Option Value → jx_H → Prop} {σ : jT} (h : jw (f_X5_step σ) (fun q => Q (some (.int q.1)) (jh S q.2))) : jx_Sp (d + 3) 61 [.ref 49] (jh S σ) Q := by
  refine ⟨jm_i61, jm_at61, rfl, rfl, ?_⟩
  show jx_Ex _ jm_l61 jm_b61_0 [.ref 49] [] _ _
  unfold f_X5_step at h
  refine xo_2 rfl ?_
  refine xo_2 rfl ?_
  refine xo_2 rfl ?_
  refine xc_33 (i := 3136) (q := 3) hS ly49 rfl (xc_P hS (by decide)) ?_
  refine xo_2 rfl ?_
  refine xc_33 (i := 3143) (q := 54) hS ly49 rfl (xc_P hS (by decide)) ?_
  refine xo_8 ?_
  refine xc_38 (j := 0) (v := (σ.2 54 0)) hS ly54 ⟨Nat.le_of_ble_eq_true rfl, Nat.le_of_ble_eq_true rfl⟩ (by decide) (by decide) rfl ?_
  refine xo_2 rfl ?_
  refine xc_32 (i := 3144) (v := (σ.1 3144)) hS ly49 rfl ⟨Nat.le_of_ble_eq_true rfl, Nat.le_of_ble_eq_true rfl⟩ rfl ?_
  refine xo_49 (st' := [.ref 49, .ref 49]) rfl rfl (xc_ly hS ly3) rfl (Nat.le_of_ble_eq_true rfl) ?_
  refine t_X3_viewOf hS ?_
  refine jw_mono (jw_bind h) (fun q1 h => ?_)
  show jx_Ex _ _ _ _ [.int q1.1, .ref 49, .ref 49] (jh S q1.2) _
  refine xo_2 rfl ?_
  refine xc_33 (i := 3136) (q := 3) hS ly49 rfl (xc_P hS (by decide)) ?_
  refine xo_2 rfl ?_
  refine xc_33 (i := 3143) (q := 54) hS ly49 rfl (xc_P hS (by decide)) ?_
  refine xo_8 ?_
  refine xc_38 (j := 1) (v := (q1.2.2 54 1)) hS ly54 ⟨Nat.le_of_ble_eq_true rfl, Nat.le_of_ble_eq_true rfl⟩ (by decide) (by decide) rfl ?_
  refine xo_2 rfl ?_
  refine xc_32 (i := 3144) (v := (q1.2.1 3144)) hS ly49 rfl ⟨Nat.le_of_ble_eq_true rfl, Nat.le_of_ble_eq_true rfl⟩ rfl ?_
  refine xo_49 (st' := [.int q1.1, .ref 49, .ref 49]) rfl rfl (xc_ly hS ly3) rfl (Nat.le_of_ble_eq_true rfl) ?_
  refine t_X3_viewOf hS ?_
  refine jw_mono (jw_bind h) (fun q2 h => ?_)
  show jx_Ex _ _ _ _ [.int q2.1, .int q1.1, .ref 49, .ref 49] (jh S q2.2) _
  refine xo_49 (st' := [.ref 49]) rfl rfl (xc_ly hS ly49) rfl (Nat.le_of_ble_eq_true rfl) ?_
  refine t_X5_wayBy hS ?_
  refine jw_mono (jw_bind h) (fun q3 h => ?_)
  show jx_Ex _ _ _ _ [.int q3.1, .ref 49] (jh S q3.2) _
  refine xo_49 (st' := []) rfl rfl (xc_ly hS ly49) rfl (Nat.le_of_ble_eq_true rfl) ?_
  refine t_X5_goBy hS ?_
  refine jw_mono (jw_bind h) (fun q4 h => ?_)
  show jx_Ex _ _ _ _ [.int q4.1] (jh S q4.2) _
  obtain ⟨hz5, h⟩ := jw_chk h
  replace h := jw_some h
  exact xo_70 hz5 h
/-- Ride.go, at ['x.trial', 'int'] -/
def f_X5_go_b2 : Nat → Int32 → Int32 → jT → Option (Int32 × jT)
  | 0, _, _, _ => none
  | n + 1, x1, x2, σ =>
    if x1 ≤ x2 then
      some (0, σ)
    else
      (f_X5_step σ).bind fun q2 =>
      if q2.1 = 0 then
        some (0, q2.2)
      else
        f_X5_go_b2 n x1 (x2 + 1) q2.2
def f_X5_go (x1 : Int32) (σ : jT) : Option (Int32 × jT) :=
  f_X5_go_b2 1000 x1 0 σ
theorem t_X5_go_b2 {S : jS} (hS : jCok S) {d : Nat} {Q : Option Value → jx_H → Prop} : ∀ (n : Nat) {x1 : Int32} {x2 : Int32} {σ : jT}, jw (f_X5_go_b2 n x1 x2 σ) (fun q => Q none (jh S q.2)) → jx_Ex (d + 4) jm_l64 jm_b64_2 [.ref 49, .int x1, .int x2] [] (jh S σ) Q := by
  intro n
  induction n with
  | zero => intro x1 x2 σ h; exact jw_none h
  | succ n ih =>
    intro x1 x2 σ h
    rw [f_X5_go_b2] at h
    refine xo_0 rfl ?_
    refine xo_0 rfl ?_
    refine xo_64 (t := jm_b64_20) rfl (fun hc1 => ?_) (fun hc1 => ?_)
    · replace h := jw_pos hc1 h
      replace h := jw_some h
      exact xo_71 h
    · replace h := jw_neg hc1 h
      refine xo_2 rfl ?_
      refine xo_49 (st' := []) rfl rfl (xc_ly hS ly49) rfl (Nat.le_of_ble_eq_true rfl) ?_
      refine t_X5_step hS ?_
      refine jw_mono (jw_bind h) (fun q2 h => ?_)
      show jx_Ex _ _ _ _ [.int q2.1] (jh S q2.2) _
      refine xo_55 (t := jm_b64_20) rfl (fun hc3 => ?_) (fun hc3 => ?_)
      · replace h := jw_pos hc3 h
        replace h := jw_some h
        exact xo_71 h
      · replace h := jw_neg hc3 h
        refine xo_13 (ls' := [.ref 49, .int x1, .int (x2 + 1)]) rfl rfl ?_
        refine xo_54 (t := jm_b64_2) rfl ?_
        exact ih h
theorem t_X5_go {S : jS} (hS : jCok S) {d : Nat} {Q : Option Value → jx_H → Prop} {x1 : Int32} {σ : jT} (h : jw (f_X5_go x1 σ) (fun q => Q none (jh S q.2))) : jx_Sp (d + 4) 64 [.ref 49, .int x1] (jh S σ) Q := by
  refine ⟨jm_i64, jm_at64, rfl, rfl, ?_⟩
  show jx_Ex _ jm_l64 jm_b64_0 [.ref 49, .int x1, .retAddr 0] [] _ _
  unfold f_X5_go at h
  refine xo_8 ?_
  refine xo_4 (ls' := [.ref 49, .int x1, .int 0]) rfl ?_
  exact t_X5_go_b2 hS 1000 h
/-- Standing.setHorse, at ['x.now', 'int'] -/
def f_X8_setHorse (x1 : Int32) (σ : jT) : Option (Int32 × jT) :=
  some (0, (gA σ 13 24 x1))
theorem t_X8_setHorse {S : jS} (hS : jCok S) {d : Nat} {Q : Option Value → jx_H → Prop} {x1 : Int32} {σ : jT} (h : jw (f_X8_setHorse x1 σ) (fun q => Q none (jh S q.2))) : jx_Sp (d) 104 [.ref 12, .int x1] (jh S σ) Q := by
  refine ⟨jm_i104, jm_at104, rfl, rfl, ?_⟩
  show jx_Ex _ jm_l104 jm_b104_0 [.ref 12, .int x1] [] _ _
  unfold f_X8_setHorse at h
  refine xo_2 rfl ?_
  refine xc_33 (i := 768) (q := 13) hS ly12 rfl (xc_P hS (by decide)) ?_
  refine xo_9 ?_
  refine xo_0 rfl ?_
  refine xc_41 (j := 24) hS ly13 ⟨Nat.le_of_ble_eq_true rfl, Nat.le_of_ble_eq_true rfl⟩ (by decide) (by decide) ?_
  replace h := jw_some h
  exact xo_71 h
/-- Standing.setSteps, at ['x.now', 'int'] -/
def f_X8_setSteps (x1 : Int32) (σ : jT) : Option (Int32 × jT) :=
  some (0, (gA σ 13 27 x1))
theorem t_X8_setSteps {S : jS} (hS : jCok S) {d : Nat} {Q : Option Value → jx_H → Prop} {x1 : Int32} {σ : jT} (h : jw (f_X8_setSteps x1 σ) (fun q => Q none (jh S q.2))) : jx_Sp (d) 108 [.ref 12, .int x1] (jh S σ) Q := by
  refine ⟨jm_i108, jm_at108, rfl, rfl, ?_⟩
  show jx_Ex _ jm_l108 jm_b108_0 [.ref 12, .int x1] [] _ _
  unfold f_X8_setSteps at h
  refine xo_2 rfl ?_
  refine xc_33 (i := 768) (q := 13) hS ly12 rfl (xc_P hS (by decide)) ?_
  refine xo_9 ?_
  refine xo_0 rfl ?_
  refine xc_41 (j := 27) hS ly13 ⟨Nat.le_of_ble_eq_true rfl, Nat.le_of_ble_eq_true rfl⟩ (by decide) (by decide) ?_
  replace h := jw_some h
  exact xo_71 h
/-- Standing.setPlace, at ['x.now', 'int', 'int'] -/
def f_X8_setPlace (x1 : Int32) (x2 : Int32) (σ : jT) : Option (Int32 × jT) :=
  (f_X8_set 6 x1 x2 σ).bind fun q1 =>
  some (0, q1.2)
theorem t_X8_setPlace {S : jS} (hS : jCok S) {d : Nat} {Q : Option Value → jx_H → Prop} {x1 : Int32} {x2 : Int32} {σ : jT} (h : jw (f_X8_setPlace x1 x2 σ) (fun q => Q none (jh S q.2))) : jx_Sp (d + 1) 96 [.ref 12, .int x1, .int x2] (jh S σ) Q := by
  refine ⟨jm_i96, jm_at96, rfl, rfl, ?_⟩
  show jx_Ex _ jm_l96 jm_b96_0 [.ref 12, .int x1, .int x2] [] _ _
  unfold f_X8_setPlace at h
  refine xo_2 rfl ?_
  refine xo_9 ?_
  refine xo_0 rfl ?_
  refine xo_0 rfl ?_
  refine xo_49 (st' := []) rfl rfl (xc_ly hS ly12) rfl (Nat.le_of_ble_eq_true rfl) ?_
  refine t_X8_set hS ?_
  refine jw_mono (jw_bind h) (fun q1 h => ?_)
  show jx_Ex _ _ _ _ [] (jh S q1.2) _
  replace h := jw_some h
  exact xo_71 h
/-- Standing.setConvincer, at ['x.now', 'int', 'int'] -/
def f_X8_setConvincer (x1 : Int32) (x2 : Int32) (σ : jT) : Option (Int32 × jT) :=
  (f_X8_set 12 x1 x2 σ).bind fun q1 =>
  some (0, q1.2)
theorem t_X8_setConvincer {S : jS} (hS : jCok S) {d : Nat} {Q : Option Value → jx_H → Prop} {x1 : Int32} {x2 : Int32} {σ : jT} (h : jw (f_X8_setConvincer x1 x2 σ) (fun q => Q none (jh S q.2))) : jx_Sp (d + 1) 98 [.ref 12, .int x1, .int x2] (jh S σ) Q := by
  refine ⟨jm_i98, jm_at98, rfl, rfl, ?_⟩
  show jx_Ex _ jm_l98 jm_b98_0 [.ref 12, .int x1, .int x2] [] _ _
  unfold f_X8_setConvincer at h
  refine xo_2 rfl ?_
  refine xo_9 ?_
  refine xo_0 rfl ?_
  refine xo_0 rfl ?_
  refine xo_49 (st' := []) rfl rfl (xc_ly hS ly12) rfl (Nat.le_of_ble_eq_true rfl) ?_
  refine t_X8_set hS ?_
  refine jw_mono (jw_bind h) (fun q1 h => ?_)
  show jx_Ex _ _ _ _ [] (jh S q1.2) _
  replace h := jw_some h
  exact xo_71 h
/-- Ride.settle, at ['x.trial'] -/
def f_X5_settle_b29 : Nat → Int32 → jT → Option (Int32 × jT)
  | 0, _, _ => none
  | n + 1, x1, σ =>
    if 2 ≤ x1 then
      some (0, σ)
    else
      if jx_in x1 2 then
      (f_X8_setPlace (σ.2 50 x1.toNatClampNeg) (σ.1 3144) σ).bind fun q3 =>
      (f_X3_mindOf (q3.2.2 50 x1.toNatClampNeg) q3.2).bind fun q4 =>
      (f_X8_setSpent (q3.2.2 50 x1.toNatClampNeg) (q4.1 - (q4.2.2 51 x1.toNatClampNeg)) q4.2).bind fun q5 =>
      (f_X8_setConvincer (q5.2.2 50 x1.toNatClampNeg) (q5.2.2 52 x1.toNatClampNeg) q5.2).bind fun q6 =>
      f_X5_settle_b29 n (x1 + 1) q6.2
      else none
def f_X5_settle (σ : jT) : Option (Int32 × jT) :=
  (f_X8_setHorse (σ.1 3144) σ).bind fun q1 =>
  (f_X8_setSteps ((q1.2.1 3145) + (q1.2.1 3146)) q1.2).bind fun q2 =>
  f_X5_settle_b29 1000 0 q2.2
theorem t_X5_settle_b29 {S : jS} (hS : jCok S) {d : Nat} {Q : Option Value → jx_H → Prop} : ∀ (n : Nat) {x1 : Int32} {σ : jT}, jw (f_X5_settle_b29 n x1 σ) (fun q => Q none (jh S q.2)) → jx_Ex (d + 2) jm_l52 jm_b52_29 [.ref 49, .int x1] [] (jh S σ) Q := by
  intro n
  induction n with
  | zero => intro x1 σ h; exact jw_none h
  | succ n ih =>
    intro x1 σ h
    rw [f_X5_settle_b29] at h
    refine xo_0 rfl ?_
    refine xo_8 ?_
    refine xo_64 (t := jm_b52_109) rfl (fun hc1 => ?_) (fun hc1 => ?_)
    · replace h := jw_pos hc1 h
      replace h := jw_some h
      exact xo_71 h
    · replace h := jw_neg hc1 h
      refine xo_2 rfl ?_
      refine xc_33 (i := 3138) (q := 12) hS ly49 rfl (xc_P hS (by decide)) ?_
      refine xo_2 rfl ?_
      refine xc_33 (i := 3139) (q := 50) hS ly49 rfl (xc_P hS (by decide)) ?_
      refine xo_0 rfl ?_
      obtain ⟨hi2, h⟩ := jw_chk h
      refine xc_38 (j := x1.toNatClampNeg) (v := (σ.2 50 x1.toNatClampNeg)) hS ly50 ⟨Nat.le_of_ble_eq_true rfl, Nat.le_of_ble_eq_true rfl⟩ hi2 rfl rfl ?_
      refine xo_2 rfl ?_
      refine xc_32 (i := 3144) (v := (σ.1 3144)) hS ly49 rfl ⟨Nat.le_of_ble_eq_true rfl, Nat.le_of_ble_eq_true rfl⟩ rfl ?_
      refine xo_49 (st' := []) rfl rfl (xc_ly hS ly12) rfl (Nat.le_of_ble_eq_true rfl) ?_
      refine t_X8_setPlace hS ?_
      refine jw_mono (jw_bind h) (fun q3 h => ?_)
      show jx_Ex _ _ _ _ [] (jh S q3.2) _
      refine xo_2 rfl ?_
      refine xc_33 (i := 3138) (q := 12) hS ly49 rfl (xc_P hS (by decide)) ?_
      refine xo_2 rfl ?_
      refine xc_33 (i := 3139) (q := 50) hS ly49 rfl (xc_P hS (by decide)) ?_
      refine xo_0 rfl ?_
      refine xc_38 (j := x1.toNatClampNeg) (v := (q3.2.2 50 x1.toNatClampNeg)) hS ly50 ⟨Nat.le_of_ble_eq_true rfl, Nat.le_of_ble_eq_true rfl⟩ hi2 rfl rfl ?_
      refine xo_2 rfl ?_
      refine xc_33 (i := 3136) (q := 3) hS ly49 rfl (xc_P hS (by decide)) ?_
      refine xo_2 rfl ?_
      refine xc_33 (i := 3139) (q := 50) hS ly49 rfl (xc_P hS (by decide)) ?_
      refine xo_0 rfl ?_
      refine xc_38 (j := x1.toNatClampNeg) (v := (q3.2.2 50 x1.toNatClampNeg)) hS ly50 ⟨Nat.le_of_ble_eq_true rfl, Nat.le_of_ble_eq_true rfl⟩ hi2 rfl rfl ?_
      refine xo_49 (st' := [.int (q3.2.2 50 x1.toNatClampNeg), .ref 12]) rfl rfl (xc_ly hS ly3) rfl (Nat.le_of_ble_eq_true rfl) ?_
      refine t_X3_mindOf hS ?_
      refine jw_mono (jw_bind h) (fun q4 h => ?_)
      show jx_Ex _ _ _ _ [.int q4.1, .int (q3.2.2 50 x1.toNatClampNeg), .ref 12] (jh S q4.2) _
      refine xo_2 rfl ?_
      refine xc_33 (i := 3140) (q := 51) hS ly49 rfl (xc_P hS (by decide)) ?_
      refine xo_0 rfl ?_
      refine xc_38 (j := x1.toNatClampNeg) (v := (q4.2.2 51 x1.toNatClampNeg)) hS ly51 ⟨Nat.le_of_ble_eq_true rfl, Nat.le_of_ble_eq_true rfl⟩ hi2 rfl rfl ?_
      refine xo_15 ?_
      refine xo_49 (st' := []) rfl rfl (xc_ly hS ly12) rfl (Nat.le_of_ble_eq_true rfl) ?_
      refine t_X8_setSpent hS ?_
      refine jw_mono (jw_bind h) (fun q5 h => ?_)
      show jx_Ex _ _ _ _ [] (jh S q5.2) _
      refine xo_2 rfl ?_
      refine xc_33 (i := 3138) (q := 12) hS ly49 rfl (xc_P hS (by decide)) ?_
      refine xo_2 rfl ?_
      refine xc_33 (i := 3139) (q := 50) hS ly49 rfl (xc_P hS (by decide)) ?_
      refine xo_0 rfl ?_
      refine xc_38 (j := x1.toNatClampNeg) (v := (q5.2.2 50 x1.toNatClampNeg)) hS ly50 ⟨Nat.le_of_ble_eq_true rfl, Nat.le_of_ble_eq_true rfl⟩ hi2 rfl rfl ?_
      refine xo_2 rfl ?_
      refine xc_33 (i := 3141) (q := 52) hS ly49 rfl (xc_P hS (by decide)) ?_
      refine xo_0 rfl ?_
      refine xc_38 (j := x1.toNatClampNeg) (v := (q5.2.2 52 x1.toNatClampNeg)) hS ly52 ⟨Nat.le_of_ble_eq_true rfl, Nat.le_of_ble_eq_true rfl⟩ hi2 rfl rfl ?_
      refine xo_49 (st' := []) rfl rfl (xc_ly hS ly12) rfl (Nat.le_of_ble_eq_true rfl) ?_
      refine t_X8_setConvincer hS ?_
      refine jw_mono (jw_bind h) (fun q6 h => ?_)
      show jx_Ex _ _ _ _ [] (jh S q6.2) _
      refine xo_13 (ls' := [.ref 49, .int (x1 + 1)]) rfl rfl ?_
      refine xo_54 (t := jm_b52_29) rfl ?_
      exact ih h
theorem t_X5_settle {S : jS} (hS : jCok S) {d : Nat} {Q : Option Value → jx_H → Prop} {σ : jT} (h : jw (f_X5_settle σ) (fun q => Q none (jh S q.2))) : jx_Sp (d + 2) 52 [.ref 49] (jh S σ) Q := by
  refine ⟨jm_i52, jm_at52, rfl, rfl, ?_⟩
  show jx_Ex _ jm_l52 jm_b52_0 [.ref 49, .retAddr 0] [] _ _
  unfold f_X5_settle at h
  refine xo_2 rfl ?_
  refine xc_33 (i := 3138) (q := 12) hS ly49 rfl (xc_P hS (by decide)) ?_
  refine xo_2 rfl ?_
  refine xc_32 (i := 3144) (v := (σ.1 3144)) hS ly49 rfl ⟨Nat.le_of_ble_eq_true rfl, Nat.le_of_ble_eq_true rfl⟩ rfl ?_
  refine xo_49 (st' := []) rfl rfl (xc_ly hS ly12) rfl (Nat.le_of_ble_eq_true rfl) ?_
  refine t_X8_setHorse hS ?_
  refine jw_mono (jw_bind h) (fun q1 h => ?_)
  show jx_Ex _ _ _ _ [] (jh S q1.2) _
  refine xo_2 rfl ?_
  refine xc_33 (i := 3138) (q := 12) hS ly49 rfl (xc_P hS (by decide)) ?_
  refine xo_2 rfl ?_
  refine xc_32 (i := 3145) (v := (q1.2.1 3145)) hS ly49 rfl ⟨Nat.le_of_ble_eq_true rfl, Nat.le_of_ble_eq_true rfl⟩ rfl ?_
  refine xo_2 rfl ?_
  refine xc_32 (i := 3146) (v := (q1.2.1 3146)) hS ly49 rfl ⟨Nat.le_of_ble_eq_true rfl, Nat.le_of_ble_eq_true rfl⟩ rfl ?_
  refine xo_14 ?_
  refine xo_49 (st' := []) rfl rfl (xc_ly hS ly12) rfl (Nat.le_of_ble_eq_true rfl) ?_
  refine t_X8_setSteps hS ?_
  refine jw_mono (jw_bind h) (fun q2 h => ?_)
  show jx_Ex _ _ _ _ [] (jh S q2.2) _
  refine xo_8 ?_
  refine xo_4 (ls' := [.ref 49, .int 0]) rfl ?_
  exact t_X5_settle_b29 hS 1000 h
/-- Ride.taken, at ['x.trial'] -/
def f_X5_taken (σ : jT) : Option (Int32 × jT) :=
  some ((σ.1 3146), σ)
theorem t_X5_taken {S : jS} (hS : jCok S) {d : Nat} {Q : Option Value → jx_H → Prop} {σ : jT} (h : jw (f_X5_taken σ) (fun q => Q (some (.int q.1)) (jh S q.2))) : jx_Sp (d) 54 [.ref 49] (jh S σ) Q := by
  refine ⟨jm_i54, jm_at54, rfl, rfl, ?_⟩
  show jx_Ex _ jm_l54 jm_b54_0 [.ref 49] [] _ _
  unfold f_X5_taken at h
  refine xo_2 rfl ?_
  refine xc_32 (i := 3146) (v := (σ.1 3146)) hS ly49 rfl ⟨Nat.le_of_ble_eq_true rfl, Nat.le_of_ble_eq_true rfl⟩ rfl ?_
  replace h := jw_some h
  exact xo_69 h
/-- OfDifferentMinds.goOn, at ['x', 'int'] -/
def f_X10_goOn (x1 : Int32) (σ : jT) : Option (Int32 × jT) :=
  if x1 < 0 then
    some ((-1), σ)
  else
    if x1 ≤ 99 then
      (f_X8_isMounted σ).bind fun q3 =>
      if ¬ q3.1 = 0 then
        (f_X5_resume q3.2).bind fun q5 =>
        (f_X5_go x1 q5.2).bind fun q6 =>
        (f_X5_settle q6.2).bind fun q7 =>
        (f_X5_taken q7.2).bind fun q8 =>
        some (q8.1, q8.2)
      else
        some ((-2), q3.2)
    else
      some ((-1), σ)
theorem t_X10_goOn {S : jS} (hS : jCok S) {d : Nat} {Q : Option Value → jx_H → Prop} {x1 : Int32} {σ : jT} (h : jw (f_X10_goOn x1 σ) (fun q => Q (some (.int q.1)) (jh S q.2))) : jx_Sp (d + 5) 154 [.ref 0, .int x1] (jh S σ) Q := by
  refine ⟨jm_i154, jm_at154, rfl, rfl, ?_⟩
  show jx_Ex _ jm_l154 jm_b154_0 [.ref 0, .int x1] [] _ _
  unfold f_X10_goOn at h
  refine xo_0 rfl ?_
  refine xo_57 (t := jm_b154_10) rfl (fun hc1 => ?_) (fun hc1 => ?_)
  · replace h := jw_pos hc1 h
    refine xo_8 ?_
    replace h := jw_some h
    exact xo_69 h
  · replace h := jw_neg hc1 h
    refine xo_0 rfl ?_
    refine xo_9 ?_
    refine xo_66 (t := jm_b154_12) rfl (fun hc2 => ?_) (fun hc2 => ?_)
    · replace h := jw_pos hc2 h
      refine xo_2 rfl ?_
      refine xc_33 (i := 3) (q := 12) hS ly0 rfl (xc_P hS (by decide)) ?_
      refine xo_49 (st' := []) rfl rfl (xc_ly hS ly12) rfl (Nat.le_of_ble_eq_true rfl) ?_
      refine t_X8_isMounted hS ?_
      refine jw_mono (jw_bind h) (fun q3 h => ?_)
      show jx_Ex _ _ _ _ [.int q3.1] (jh S q3.2) _
      refine xo_56 (t := jm_b154_25) rfl (fun hc4 => ?_) (fun hc4 => ?_)
      · replace h := jw_pos hc4 h
        refine xo_2 rfl ?_
        refine xc_33 (i := 6) (q := 49) hS ly0 rfl (xc_P hS (by decide)) ?_
        refine xo_49 (st' := []) rfl rfl (xc_ly hS ly49) rfl (Nat.le_of_ble_eq_true rfl) ?_
        refine t_X5_resume hS ?_
        refine jw_mono (jw_bind h) (fun q5 h => ?_)
        show jx_Ex _ _ _ _ [] (jh S q5.2) _
        refine xo_2 rfl ?_
        refine xc_33 (i := 6) (q := 49) hS ly0 rfl (xc_P hS (by decide)) ?_
        refine xo_0 rfl ?_
        refine xo_49 (st' := []) rfl rfl (xc_ly hS ly49) rfl (Nat.le_of_ble_eq_true rfl) ?_
        refine t_X5_go hS ?_
        refine jw_mono (jw_bind h) (fun q6 h => ?_)
        show jx_Ex _ _ _ _ [] (jh S q6.2) _
        refine xo_2 rfl ?_
        refine xc_33 (i := 6) (q := 49) hS ly0 rfl (xc_P hS (by decide)) ?_
        refine xo_49 (st' := []) rfl rfl (xc_ly hS ly49) rfl (Nat.le_of_ble_eq_true rfl) ?_
        refine t_X5_settle hS ?_
        refine jw_mono (jw_bind h) (fun q7 h => ?_)
        show jx_Ex _ _ _ _ [] (jh S q7.2) _
        refine xo_2 rfl ?_
        refine xc_33 (i := 6) (q := 49) hS ly0 rfl (xc_P hS (by decide)) ?_
        refine xo_49 (st' := []) rfl rfl (xc_ly hS ly49) rfl (Nat.le_of_ble_eq_true rfl) ?_
        refine t_X5_taken hS ?_
        refine jw_mono (jw_bind h) (fun q8 h => ?_)
        show jx_Ex _ _ _ _ [.int q8.1] (jh S q8.2) _
        replace h := jw_some h
        exact xo_69 h
      · replace h := jw_neg hc4 h
        refine xo_9 ?_
        replace h := jw_some h
        exact xo_69 h
    · replace h := jw_neg hc2 h
      refine xo_8 ?_
      replace h := jw_some h
      exact xo_69 h
/-- Ride.spot, at ['x.trial'] -/
def f_X5_spot (σ : jT) : Option (Int32 × jT) :=
  some ((σ.1 3144), σ)
theorem t_X5_spot {S : jS} (hS : jCok S) {d : Nat} {Q : Option Value → jx_H → Prop} {σ : jT} (h : jw (f_X5_spot σ) (fun q => Q (some (.int q.1)) (jh S q.2))) : jx_Sp (d) 53 [.ref 49] (jh S σ) Q := by
  refine ⟨jm_i53, jm_at53, rfl, rfl, ?_⟩
  show jx_Ex _ jm_l53 jm_b53_0 [.ref 49] [] _ _
  unfold f_X5_spot at h
  refine xo_2 rfl ?_
  refine xc_32 (i := 3144) (v := (σ.1 3144)) hS ly49 rfl ⟨Nat.le_of_ble_eq_true rfl, Nat.le_of_ble_eq_true rfl⟩ rfl ?_
  replace h := jw_some h
  exact xo_69 h
/-- Ride.hasStopped, at ['x.trial'] -/
def f_X5_hasStopped (σ : jT) : Option (Int32 × jT) :=
  if (σ.1 3148) = 0 ∨ (σ.1 3148) = 1 then
  some ((σ.1 3148), σ)
  else none
theorem t_X5_hasStopped {S : jS} (hS : jCok S) {d : Nat} {Q : Option Value → jx_H → Prop} {σ : jT} (h : jw (f_X5_hasStopped σ) (fun q => Q (some (.int q.1)) (jh S q.2))) : jx_Sp (d) 56 [.ref 49] (jh S σ) Q := by
  refine ⟨jm_i56, jm_at56, rfl, rfl, ?_⟩
  show jx_Ex _ jm_l56 jm_b56_0 [.ref 49] [] _ _
  unfold f_X5_hasStopped at h
  refine xo_2 rfl ?_
  refine xc_32 (i := 3148) (v := (σ.1 3148)) hS ly49 rfl ⟨Nat.le_of_ble_eq_true rfl, Nat.le_of_ble_eq_true rfl⟩ rfl ?_
  obtain ⟨hz1, h⟩ := jw_chk h
  replace h := jw_some h
  exact xo_70 hz1 h
/-- Ride.latest, at ['x.trial'] -/
def f_X5_latest (σ : jT) : Option (Int32 × jT) :=
  some ((σ.1 3147), σ)
theorem t_X5_latest {S : jS} (hS : jCok S) {d : Nat} {Q : Option Value → jx_H → Prop} {σ : jT} (h : jw (f_X5_latest σ) (fun q => Q (some (.int q.1)) (jh S q.2))) : jx_Sp (d) 55 [.ref 49] (jh S σ) Q := by
  refine ⟨jm_i55, jm_at55, rfl, rfl, ?_⟩
  show jx_Ex _ jm_l55 jm_b55_0 [.ref 49] [] _ _
  unfold f_X5_latest at h
  refine xo_2 rfl ?_
  refine xc_32 (i := 3147) (v := (σ.1 3147)) hS ly49 rfl ⟨Nat.le_of_ble_eq_true rfl, Nat.le_of_ble_eq_true rfl⟩ rfl ?_
  replace h := jw_some h
  exact xo_69 h
/-- Row.clear, at ['x.told'] -/
def f_X6_clear (σ : jT) : Option (Int32 × jT) :=
  some (0, (gs σ 3009 0))
theorem t_X6_clear {S : jS} (hS : jCok S) {d : Nat} {Q : Option Value → jx_H → Prop} {σ : jT} (h : jw (f_X6_clear σ) (fun q => Q none (jh S q.2))) : jx_Sp (d) 68 [.ref 47] (jh S σ) Q := by
  refine ⟨jm_i68, jm_at68, rfl, rfl, ?_⟩
  show jx_Ex _ jm_l68 jm_b68_0 [.ref 47] [] _ _
  unfold f_X6_clear at h
  refine xo_2 rfl ?_
  refine xo_8 ?_
  refine xc_34 (i := 3009) hS ly47 rfl ⟨Nat.le_of_ble_eq_true rfl, Nat.le_of_ble_eq_true rfl⟩ ?_
  replace h := jw_some h
  exact xo_71 h
/-- Row.put, at ['x.told', 'int'] -/
def f_X6_put (x1 : Int32) (σ : jT) : Option (Int32 × jT) :=
  if 16 ≤ (σ.1 3009) then
    some (0, σ)
  else
    if jx_in (σ.1 3009) 16 then
    some (0, (gs (gA σ 48 (σ.1 3009).toNatClampNeg x1) 3009 ((σ.1 3009) + 1)))
    else none
theorem t_X6_put {S : jS} (hS : jCok S) {d : Nat} {Q : Option Value → jx_H → Prop} {x1 : Int32} {σ : jT} (h : jw (f_X6_put x1 σ) (fun q => Q none (jh S q.2))) : jx_Sp (d) 69 [.ref 47, .int x1] (jh S σ) Q := by
  refine ⟨jm_i69, jm_at69, rfl, rfl, ?_⟩
  show jx_Ex _ jm_l69 jm_b69_0 [.ref 47, .int x1] [] _ _
  unfold f_X6_put at h
  refine xo_2 rfl ?_
  refine xc_32 (i := 3009) (v := (σ.1 3009)) hS ly47 rfl ⟨Nat.le_of_ble_eq_true rfl, Nat.le_of_ble_eq_true rfl⟩ rfl ?_
  refine xo_9 ?_
  refine xo_64 (t := jm_b69_29) rfl (fun hc1 => ?_) (fun hc1 => ?_)
  · replace h := jw_pos hc1 h
    replace h := jw_some h
    exact xo_71 h
  · replace h := jw_neg hc1 h
    refine xo_2 rfl ?_
    refine xc_33 (i := 3008) (q := 48) hS ly47 rfl (xc_P hS (by decide)) ?_
    refine xo_2 rfl ?_
    refine xc_32 (i := 3009) (v := (σ.1 3009)) hS ly47 rfl ⟨Nat.le_of_ble_eq_true rfl, Nat.le_of_ble_eq_true rfl⟩ rfl ?_
    refine xo_0 rfl ?_
    obtain ⟨hi2, h⟩ := jw_chk h
    refine xc_41 (j := (σ.1 3009).toNatClampNeg) hS ly48 ⟨Nat.le_of_ble_eq_true rfl, Nat.le_of_ble_eq_true rfl⟩ hi2 rfl ?_
    refine xo_2 rfl ?_
    refine xo_28r ?_
    refine xc_32 (i := 3009) (v := (σ.1 3009)) hS ly47 rfl ⟨Nat.le_of_ble_eq_true rfl, Nat.le_of_ble_eq_true rfl⟩ rfl ?_
    refine xo_8 ?_
    refine xo_14 ?_
    refine xc_34 (i := 3009) hS ly47 rfl ⟨Nat.le_of_ble_eq_true rfl, Nat.le_of_ble_eq_true rfl⟩ ?_
    replace h := jw_some h
    exact xo_71 h
/-- Row.tell, at ['x.told', 'int', 'int', 'int'] -/
def f_X6_tell__ (x1 : Int32) (x2 : Int32) (x3 : Int32) (σ : jT) : Option (Int32 × jT) :=
  (f_X6_clear σ).bind fun q1 =>
  (f_X6_put x1 q1.2).bind fun q2 =>
  (f_X6_put x2 q2.2).bind fun q3 =>
  (f_X6_put x3 q3.2).bind fun q4 =>
  some (0, q4.2)
theorem t_X6_tell__ {S : jS} (hS : jCok S) {d : Nat} {Q : Option Value → jx_H → Prop} {x1 : Int32} {x2 : Int32} {x3 : Int32} {σ : jT} (h : jw (f_X6_tell__ x1 x2 x3 σ) (fun q => Q none (jh S q.2))) : jx_Sp (d + 1) 72 [.ref 47, .int x1, .int x2, .int x3] (jh S σ) Q := by
  refine ⟨jm_i72, jm_at72, rfl, rfl, ?_⟩
  show jx_Ex _ jm_l72 jm_b72_0 [.ref 47, .int x1, .int x2, .int x3] [] _ _
  unfold f_X6_tell__ at h
  refine xo_2 rfl ?_
  refine xo_49 (st' := []) rfl rfl (xc_ly hS ly47) rfl (Nat.le_of_ble_eq_true rfl) ?_
  refine t_X6_clear hS ?_
  refine jw_mono (jw_bind h) (fun q1 h => ?_)
  show jx_Ex _ _ _ _ [] (jh S q1.2) _
  refine xo_2 rfl ?_
  refine xo_0 rfl ?_
  refine xo_49 (st' := []) rfl rfl (xc_ly hS ly47) rfl (Nat.le_of_ble_eq_true rfl) ?_
  refine t_X6_put hS ?_
  refine jw_mono (jw_bind h) (fun q2 h => ?_)
  show jx_Ex _ _ _ _ [] (jh S q2.2) _
  refine xo_2 rfl ?_
  refine xo_0 rfl ?_
  refine xo_49 (st' := []) rfl rfl (xc_ly hS ly47) rfl (Nat.le_of_ble_eq_true rfl) ?_
  refine t_X6_put hS ?_
  refine jw_mono (jw_bind h) (fun q3 h => ?_)
  show jx_Ex _ _ _ _ [] (jh S q3.2) _
  refine xo_2 rfl ?_
  refine xo_0 rfl ?_
  refine xo_49 (st' := []) rfl rfl (xc_ly hS ly47) rfl (Nat.le_of_ble_eq_true rfl) ?_
  refine t_X6_put hS ?_
  refine jw_mono (jw_bind h) (fun q4 h => ?_)
  show jx_Ex _ _ _ _ [] (jh S q4.2) _
  replace h := jw_some h
  exact xo_71 h
/-- OfDifferentMinds.ride, at ['x', 'int'] -/
def f_X10_ride_b58 (x2 : Int32) (s0 : Int32) (s1 : Int32) (σ : jT) : Option (Int32 × jT) :=
  (f_X5_latest σ).bind fun q1 =>
  (f_X6_tell__ s1 s0 q1.1 q1.2).bind fun q2 =>
  some (x2, q2.2)
def f_X10_ride_b28 (x2 : Int32) (σ : jT) : Option (Int32 × jT) :=
  if x2 < 0 then
    some (x2, σ)
  else
    (f_X5_spot σ).bind fun q2 =>
    (f_X5_hasStopped q2.2).bind fun q3 =>
    if q3.1 = 0 then
      f_X10_ride_b58 x2 0 q2.1 q3.2
    else
      f_X10_ride_b58 x2 1 q2.1 q3.2
def f_X10_ride (x1 : Int32) (σ : jT) : Option (Int32 × jT) :=
  (f_X2_note_12 σ).bind fun q1 =>
  (f_X10_goOn x1 q1.2).bind fun q2 =>
  if q2.1 ≤ 0 then
    f_X10_ride_b28 q2.1 q2.2
  else
    (f_X2_push q2.2).bind fun q4 =>
    f_X10_ride_b28 q2.1 q4.2
theorem t_X10_ride_b58 {S : jS} (hS : jCok S) {d : Nat} {Q : Option Value → jx_H → Prop} {x2 : Int32} {s0 : Int32} {s1 : Int32} {w1 : Value} {σ : jT} (h : jw (f_X10_ride_b58 x2 s0 s1 σ) (fun q => Q (some (.int q.1)) (jh S q.2))) : jx_Ex (d + 6) jm_l145 jm_b145_58 [.ref 0, w1, .int x2] [.int s0, .int s1, .ref 47] (jh S σ) Q := by
  unfold f_X10_ride_b58 at h
  refine xo_2 rfl ?_
  refine xc_33 (i := 6) (q := 49) hS ly0 rfl (xc_P hS (by decide)) ?_
  refine xo_49 (st' := [.int s0, .int s1, .ref 47]) rfl rfl (xc_ly hS ly49) rfl (Nat.le_of_ble_eq_true rfl) ?_
  refine t_X5_latest hS ?_
  refine jw_mono (jw_bind h) (fun q1 h => ?_)
  show jx_Ex _ _ _ _ [.int q1.1, .int s0, .int s1, .ref 47] (jh S q1.2) _
  refine xo_49 (st' := []) rfl rfl (xc_ly hS ly47) rfl (Nat.le_of_ble_eq_true rfl) ?_
  refine t_X6_tell__ hS ?_
  refine jw_mono (jw_bind h) (fun q2 h => ?_)
  show jx_Ex _ _ _ _ [] (jh S q2.2) _
  refine xo_0 rfl ?_
  replace h := jw_some h
  exact xo_69 h
theorem t_X10_ride_b28 {S : jS} (hS : jCok S) {d : Nat} {Q : Option Value → jx_H → Prop} {x2 : Int32} {w1 : Value} {σ : jT} (h : jw (f_X10_ride_b28 x2 σ) (fun q => Q (some (.int q.1)) (jh S q.2))) : jx_Ex (d + 6) jm_l145 jm_b145_28 [.ref 0, w1, .int x2] [] (jh S σ) Q := by
  unfold f_X10_ride_b28 at h
  refine xo_0 rfl ?_
  refine xo_57 (t := jm_b145_68) rfl (fun hc1 => ?_) (fun hc1 => ?_)
  · replace h := jw_pos hc1 h
    refine xo_0 rfl ?_
    replace h := jw_some h
    exact xo_69 h
  · replace h := jw_neg hc1 h
    refine xo_2 rfl ?_
    refine xc_33 (i := 5) (q := 47) hS ly0 rfl (xc_P hS (by decide)) ?_
    refine xo_2 rfl ?_
    refine xc_33 (i := 6) (q := 49) hS ly0 rfl (xc_P hS (by decide)) ?_
    refine xo_49 (st' := [.ref 47]) rfl rfl (xc_ly hS ly49) rfl (Nat.le_of_ble_eq_true rfl) ?_
    refine t_X5_spot hS ?_
    refine jw_mono (jw_bind h) (fun q2 h => ?_)
    show jx_Ex _ _ _ _ [.int q2.1, .ref 47] (jh S q2.2) _
    refine xo_2 rfl ?_
    refine xc_33 (i := 6) (q := 49) hS ly0 rfl (xc_P hS (by decide)) ?_
    refine xo_49 (st' := [.int q2.1, .ref 47]) rfl rfl (xc_ly hS ly49) rfl (Nat.le_of_ble_eq_true rfl) ?_
    refine t_X5_hasStopped hS ?_
    refine jw_mono (jw_bind h) (fun q3 h => ?_)
    show jx_Ex _ _ _ _ [.int q3.1, .int q2.1, .ref 47] (jh S q3.2) _
    refine xo_55 (t := jm_b145_57) rfl (fun hc4 => ?_) (fun hc4 => ?_)
    · replace h := jw_pos hc4 h
      refine xo_8 ?_
      exact t_X10_ride_b58 hS h
    · replace h := jw_neg hc4 h
      refine xo_8 ?_
      refine xo_54 (t := jm_b145_58) rfl ?_
      exact t_X10_ride_b58 hS h
theorem t_X10_ride {S : jS} (hS : jCok S) {d : Nat} {Q : Option Value → jx_H → Prop} {x1 : Int32} {σ : jT} (h : jw (f_X10_ride x1 σ) (fun q => Q (some (.int q.1)) (jh S q.2))) : jx_Sp (d + 6) 145 [.ref 0, .int x1] (jh S σ) Q := by
  refine ⟨jm_i145, jm_at145, rfl, rfl, ?_⟩
  show jx_Ex _ jm_l145 jm_b145_0 [.ref 0, .int x1, .retAddr 0] [] _ _
  unfold f_X10_ride at h
  refine xo_2 rfl ?_
  refine xc_33 (i := 4) (q := 14) hS ly0 rfl (xc_P hS (by decide)) ?_
  refine xo_2 rfl ?_
  refine xc_33 (i := 3) (q := 12) hS ly0 rfl (xc_P hS (by decide)) ?_
  refine xo_49 (st' := []) rfl rfl (xc_ly hS ly14) rfl (Nat.le_of_ble_eq_true rfl) ?_
  refine t_X2_note_12 hS ?_
  refine jw_mono (jw_bind h) (fun q1 h => ?_)
  show jx_Ex _ _ _ _ [] (jh S q1.2) _
  refine xo_2 rfl ?_
  refine xo_0 rfl ?_
  refine xo_49 (st' := []) rfl rfl (xc_ly hS ly0) rfl (Nat.le_of_ble_eq_true rfl) ?_
  refine t_X10_goOn hS ?_
  refine jw_mono (jw_bind h) (fun q2 h => ?_)
  show jx_Ex _ _ _ _ [.int q2.1] (jh S q2.2) _
  refine xo_4 (ls' := [.ref 0, .int x1, .int q2.1]) rfl ?_
  refine xo_0 rfl ?_
  refine xo_60 (t := jm_b145_28) rfl (fun hc3 => ?_) (fun hc3 => ?_)
  · replace h := jw_pos hc3 h
    exact t_X10_ride_b28 hS h
  · replace h := jw_neg hc3 h
    refine xo_2 rfl ?_
    refine xc_33 (i := 4) (q := 14) hS ly0 rfl (xc_P hS (by decide)) ?_
    refine xo_49 (st' := []) rfl rfl (xc_ly hS ly14) rfl (Nat.le_of_ble_eq_true rfl) ?_
    refine t_X2_push hS ?_
    refine jw_mono (jw_bind h) (fun q4 h => ?_)
    show jx_Ex _ _ _ _ [] (jh S q4.2) _
    exact t_X10_ride_b28 hS h
/-- Standing.isUp, at ['x.now', 'int'] -/
def f_X8_isUp_b27 (σ : jT) : Option (Int32 × jT) :=
  some (1, σ)
def f_X8_isUp (x1 : Int32) (σ : jT) : Option (Int32 × jT) :=
  if x1 = (-1) then
    some (0, σ)
  else
    if (σ.2 13 25) = x1 then
      f_X8_isUp_b27 σ
    else
      if ¬ (σ.2 13 26) = x1 then
        some (0, σ)
      else
        f_X8_isUp_b27 σ
theorem t_X8_isUp_b27 {S : jS} (hS : jCok S) {d : Nat} {Q : Option Value → jx_H → Prop} {w0 : Value} {w1 : Value} {σ : jT} (h : jw (f_X8_isUp_b27 σ) (fun q => Q (some (.int q.1)) (jh S q.2))) : jx_Ex (d) jm_l110 jm_b110_27 [w0, w1] [] (jh S σ) Q := by
  unfold f_X8_isUp_b27 at h
  refine xo_8 ?_
  refine xo_54 (t := jm_b110_32) rfl ?_
  replace h := jw_some h
  exact xo_70 (by decide) h
theorem t_X8_isUp {S : jS} (hS : jCok S) {d : Nat} {Q : Option Value → jx_H → Prop} {x1 : Int32} {σ : jT} (h : jw (f_X8_isUp x1 σ) (fun q => Q (some (.int q.1)) (jh S q.2))) : jx_Sp (d) 110 [.ref 12, .int x1] (jh S σ) Q := by
  refine ⟨jm_i110, jm_at110, rfl, rfl, ?_⟩
  show jx_Ex _ jm_l110 jm_b110_0 [.ref 12, .int x1] [] _ _
  unfold f_X8_isUp at h
  refine xo_0 rfl ?_
  refine xo_8 ?_
  refine xo_61 (t := jm_b110_31) rfl (fun hc1 => ?_) (fun hc1 => ?_)
  · replace h := jw_pos hc1 h
    refine xo_8 ?_
    replace h := jw_some h
    exact xo_70 (by decide) h
  · replace h := jw_neg hc1 h
    refine xo_2 rfl ?_
    refine xc_33 (i := 768) (q := 13) hS ly12 rfl (xc_P hS (by decide)) ?_
    refine xo_9 ?_
    refine xc_38 (j := 25) (v := (σ.2 13 25)) hS ly13 ⟨Nat.le_of_ble_eq_true rfl, Nat.le_of_ble_eq_true rfl⟩ (by decide) (by decide) rfl ?_
    refine xo_0 rfl ?_
    refine xo_61 (t := jm_b110_27) rfl (fun hc2 => ?_) (fun hc2 => ?_)
    · replace h := jw_pos hc2 h
      exact t_X8_isUp_b27 hS h
    · replace h := jw_neg hc2 h
      refine xo_2 rfl ?_
      refine xc_33 (i := 768) (q := 13) hS ly12 rfl (xc_P hS (by decide)) ?_
      refine xo_9 ?_
      refine xc_38 (j := 26) (v := (σ.2 13 26)) hS ly13 ⟨Nat.le_of_ble_eq_true rfl, Nat.le_of_ble_eq_true rfl⟩ (by decide) (by decide) rfl ?_
      refine xo_0 rfl ?_
      refine xo_62 (t := jm_b110_31) rfl (fun hc3 => ?_) (fun hc3 => ?_)
      · replace h := jw_pos hc3 h
        refine xo_8 ?_
        replace h := jw_some h
        exact xo_70 (by decide) h
      · replace h := jw_neg hc3 h
        exact t_X8_isUp_b27 hS h
/-- OfDifferentMinds.goAfoot, at ['x', 'int', 'int'] -/
def f_X10_goAfoot (x1 : Int32) (x2 : Int32) (σ : jT) : Option (Int32 × jT) :=
  (f_X3_hasRider x1 σ).bind fun q1 =>
  if ¬ q1.1 = 0 then
    (f_X8_isUp x1 q1.2).bind fun q3 =>
    if q3.1 = 0 then
      (f_X8_placeOf x1 q3.2).bind fun q5 =>
      (f_X3_leadsTo q5.1 x2 q5.2).bind fun q6 =>
      if ¬ q6.1 = (-1) then
        (f_X8_setPlace x1 q6.1 q6.2).bind fun q8 =>
        some (q6.1, q8.2)
      else
        some ((-3), q6.2)
    else
      some ((-2), q3.2)
  else
    some ((-1), q1.2)
theorem t_X10_goAfoot {S : jS} (hS : jCok S) {d : Nat} {Q : Option Value → jx_H → Prop} {x1 : Int32} {x2 : Int32} {σ : jT} (h : jw (f_X10_goAfoot x1 x2 σ) (fun q => Q (some (.int q.1)) (jh S q.2))) : jx_Sp (d + 2) 155 [.ref 0, .int x1, .int x2] (jh S σ) Q := by
  refine ⟨jm_i155, jm_at155, rfl, rfl, ?_⟩
  show jx_Ex _ jm_l155 jm_b155_0 [.ref 0, .int x1, .int x2, .retAddr 0] [] _ _
  unfold f_X10_goAfoot at h
  refine xo_2 rfl ?_
  refine xc_33 (i := 1) (q := 3) hS ly0 rfl (xc_P hS (by decide)) ?_
  refine xo_0 rfl ?_
  refine xo_49 (st' := []) rfl rfl (xc_ly hS ly3) rfl (Nat.le_of_ble_eq_true rfl) ?_
  refine t_X3_hasRider hS ?_
  refine jw_mono (jw_bind h) (fun q1 h => ?_)
  show jx_Ex _ _ _ _ [.int q1.1] (jh S q1.2) _
  refine xo_56 (t := jm_b155_13) rfl (fun hc2 => ?_) (fun hc2 => ?_)
  · replace h := jw_pos hc2 h
    refine xo_2 rfl ?_
    refine xc_33 (i := 3) (q := 12) hS ly0 rfl (xc_P hS (by decide)) ?_
    refine xo_0 rfl ?_
    refine xo_49 (st' := []) rfl rfl (xc_ly hS ly12) rfl (Nat.le_of_ble_eq_true rfl) ?_
    refine t_X8_isUp hS ?_
    refine jw_mono (jw_bind h) (fun q3 h => ?_)
    show jx_Ex _ _ _ _ [.int q3.1] (jh S q3.2) _
    refine xo_55 (t := jm_b155_27) rfl (fun hc4 => ?_) (fun hc4 => ?_)
    · replace h := jw_pos hc4 h
      refine xo_2 rfl ?_
      refine xc_33 (i := 1) (q := 3) hS ly0 rfl (xc_P hS (by decide)) ?_
      refine xo_2 rfl ?_
      refine xc_33 (i := 3) (q := 12) hS ly0 rfl (xc_P hS (by decide)) ?_
      refine xo_0 rfl ?_
      refine xo_49 (st' := [.ref 3]) rfl rfl (xc_ly hS ly12) rfl (Nat.le_of_ble_eq_true rfl) ?_
      refine t_X8_placeOf hS ?_
      refine jw_mono (jw_bind h) (fun q5 h => ?_)
      show jx_Ex _ _ _ _ [.int q5.1, .ref 3] (jh S q5.2) _
      refine xo_0 rfl ?_
      refine xo_49 (st' := []) rfl rfl (xc_ly hS ly3) rfl (Nat.le_of_ble_eq_true rfl) ?_
      refine t_X3_leadsTo hS ?_
      refine jw_mono (jw_bind h) (fun q6 h => ?_)
      show jx_Ex _ _ _ _ [.int q6.1] (jh S q6.2) _
      refine xo_4 (ls' := [.ref 0, .int x1, .int x2, .int q6.1]) rfl ?_
      refine xo_0 rfl ?_
      refine xo_8 ?_
      refine xo_62 (t := jm_b155_52) rfl (fun hc7 => ?_) (fun hc7 => ?_)
      · replace h := jw_pos hc7 h
        refine xo_2 rfl ?_
        refine xc_33 (i := 3) (q := 12) hS ly0 rfl (xc_P hS (by decide)) ?_
        refine xo_0 rfl ?_
        refine xo_0 rfl ?_
        refine xo_49 (st' := []) rfl rfl (xc_ly hS ly12) rfl (Nat.le_of_ble_eq_true rfl) ?_
        refine t_X8_setPlace hS ?_
        refine jw_mono (jw_bind h) (fun q8 h => ?_)
        show jx_Ex _ _ _ _ [] (jh S q8.2) _
        refine xo_0 rfl ?_
        replace h := jw_some h
        exact xo_69 h
      · replace h := jw_neg hc7 h
        refine xo_9 ?_
        replace h := jw_some h
        exact xo_69 h
    · replace h := jw_neg hc4 h
      refine xo_9 ?_
      replace h := jw_some h
      exact xo_69 h
  · replace h := jw_neg hc2 h
    refine xo_8 ?_
    replace h := jw_some h
    exact xo_69 h
/-- OfDifferentMinds.walk, at ['x', 'int', 'int'] -/
def f_X10_walk (x1 : Int32) (x2 : Int32) (σ : jT) : Option (Int32 × jT) :=
  (f_X2_note_12 σ).bind fun q1 =>
  (f_X10_goAfoot x1 x2 q1.2).bind fun q2 =>
  (f_X10_noted q2.1 q2.2).bind fun q3 =>
  some (q3.1, q3.2)
theorem t_X10_walk {S : jS} (hS : jCok S) {d : Nat} {Q : Option Value → jx_H → Prop} {x1 : Int32} {x2 : Int32} {σ : jT} (h : jw (f_X10_walk x1 x2 σ) (fun q => Q (some (.int q.1)) (jh S q.2))) : jx_Sp (d + 3) 146 [.ref 0, .int x1, .int x2] (jh S σ) Q := by
  refine ⟨jm_i146, jm_at146, rfl, rfl, ?_⟩
  show jx_Ex _ jm_l146 jm_b146_0 [.ref 0, .int x1, .int x2] [] _ _
  unfold f_X10_walk at h
  refine xo_2 rfl ?_
  refine xc_33 (i := 4) (q := 14) hS ly0 rfl (xc_P hS (by decide)) ?_
  refine xo_2 rfl ?_
  refine xc_33 (i := 3) (q := 12) hS ly0 rfl (xc_P hS (by decide)) ?_
  refine xo_49 (st' := []) rfl rfl (xc_ly hS ly14) rfl (Nat.le_of_ble_eq_true rfl) ?_
  refine t_X2_note_12 hS ?_
  refine jw_mono (jw_bind h) (fun q1 h => ?_)
  show jx_Ex _ _ _ _ [] (jh S q1.2) _
  refine xo_2 rfl ?_
  refine xo_2 rfl ?_
  refine xo_0 rfl ?_
  refine xo_0 rfl ?_
  refine xo_49 (st' := [.ref 0]) rfl rfl (xc_ly hS ly0) rfl (Nat.le_of_ble_eq_true rfl) ?_
  refine t_X10_goAfoot hS ?_
  refine jw_mono (jw_bind h) (fun q2 h => ?_)
  show jx_Ex _ _ _ _ [.int q2.1, .ref 0] (jh S q2.2) _
  refine xo_49 (st' := []) rfl rfl (xc_ly hS ly0) rfl (Nat.le_of_ble_eq_true rfl) ?_
  refine t_X10_noted hS ?_
  refine jw_mono (jw_bind h) (fun q3 h => ?_)
  show jx_Ex _ _ _ _ [.int q3.1] (jh S q3.2) _
  replace h := jw_some h
  exact xo_69 h
/-- OfDifferentMinds.goLeading, at ['x', 'int', 'int'] -/
def f_X10_goLeading (x1 : Int32) (x2 : Int32) (σ : jT) : Option (Int32 × jT) :=
  (f_X3_hasRider x1 σ).bind fun q1 =>
  if ¬ q1.1 = 0 then
    (f_X8_isMounted q1.2).bind fun q3 =>
    if q3.1 = 0 then
      (f_X8_horse q3.2).bind fun q5 =>
      (f_X3_leadsTo q5.1 x2 q5.2).bind fun q6 =>
      if ¬ q6.1 = (-1) then
        (f_X8_placeOf x1 q6.2).bind fun q8 =>
        (f_X8_horse q8.2).bind fun q9 =>
        if q8.1 = q9.1 then
          (f_X8_setPlace x1 q6.1 q9.2).bind fun q11 =>
          (f_X8_setHorse q6.1 q11.2).bind fun q12 =>
          some (q6.1, q12.2)
        else
          some ((-4), q9.2)
      else
        some ((-3), q6.2)
    else
      some ((-2), q3.2)
  else
    some ((-1), q1.2)
theorem t_X10_goLeading {S : jS} (hS : jCok S) {d : Nat} {Q : Option Value → jx_H → Prop} {x1 : Int32} {x2 : Int32} {σ : jT} (h : jw (f_X10_goLeading x1 x2 σ) (fun q => Q (some (.int q.1)) (jh S q.2))) : jx_Sp (d + 2) 156 [.ref 0, .int x1, .int x2] (jh S σ) Q := by
  refine ⟨jm_i156, jm_at156, rfl, rfl, ?_⟩
  show jx_Ex _ jm_l156 jm_b156_0 [.ref 0, .int x1, .int x2, .retAddr 0] [] _ _
  unfold f_X10_goLeading at h
  refine xo_2 rfl ?_
  refine xc_33 (i := 1) (q := 3) hS ly0 rfl (xc_P hS (by decide)) ?_
  refine xo_0 rfl ?_
  refine xo_49 (st' := []) rfl rfl (xc_ly hS ly3) rfl (Nat.le_of_ble_eq_true rfl) ?_
  refine t_X3_hasRider hS ?_
  refine jw_mono (jw_bind h) (fun q1 h => ?_)
  show jx_Ex _ _ _ _ [.int q1.1] (jh S q1.2) _
  refine xo_56 (t := jm_b156_13) rfl (fun hc2 => ?_) (fun hc2 => ?_)
  · replace h := jw_pos hc2 h
    refine xo_2 rfl ?_
    refine xc_33 (i := 3) (q := 12) hS ly0 rfl (xc_P hS (by decide)) ?_
    refine xo_49 (st' := []) rfl rfl (xc_ly hS ly12) rfl (Nat.le_of_ble_eq_true rfl) ?_
    refine t_X8_isMounted hS ?_
    refine jw_mono (jw_bind h) (fun q3 h => ?_)
    show jx_Ex _ _ _ _ [.int q3.1] (jh S q3.2) _
    refine xo_55 (t := jm_b156_26) rfl (fun hc4 => ?_) (fun hc4 => ?_)
    · replace h := jw_pos hc4 h
      refine xo_2 rfl ?_
      refine xc_33 (i := 1) (q := 3) hS ly0 rfl (xc_P hS (by decide)) ?_
      refine xo_2 rfl ?_
      refine xc_33 (i := 3) (q := 12) hS ly0 rfl (xc_P hS (by decide)) ?_
      refine xo_49 (st' := [.ref 3]) rfl rfl (xc_ly hS ly12) rfl (Nat.le_of_ble_eq_true rfl) ?_
      refine t_X8_horse hS ?_
      refine jw_mono (jw_bind h) (fun q5 h => ?_)
      show jx_Ex _ _ _ _ [.int q5.1, .ref 3] (jh S q5.2) _
      refine xo_0 rfl ?_
      refine xo_49 (st' := []) rfl rfl (xc_ly hS ly3) rfl (Nat.le_of_ble_eq_true rfl) ?_
      refine t_X3_leadsTo hS ?_
      refine jw_mono (jw_bind h) (fun q6 h => ?_)
      show jx_Ex _ _ _ _ [.int q6.1] (jh S q6.2) _
      refine xo_4 (ls' := [.ref 0, .int x1, .int x2, .int q6.1]) rfl ?_
      refine xo_0 rfl ?_
      refine xo_8 ?_
      refine xo_62 (t := jm_b156_50) rfl (fun hc7 => ?_) (fun hc7 => ?_)
      · replace h := jw_pos hc7 h
        refine xo_2 rfl ?_
        refine xc_33 (i := 3) (q := 12) hS ly0 rfl (xc_P hS (by decide)) ?_
        refine xo_0 rfl ?_
        refine xo_49 (st' := []) rfl rfl (xc_ly hS ly12) rfl (Nat.le_of_ble_eq_true rfl) ?_
        refine t_X8_placeOf hS ?_
        refine jw_mono (jw_bind h) (fun q8 h => ?_)
        show jx_Ex _ _ _ _ [.int q8.1] (jh S q8.2) _
        refine xo_2 rfl ?_
        refine xc_33 (i := 3) (q := 12) hS ly0 rfl (xc_P hS (by decide)) ?_
        refine xo_49 (st' := [.int q8.1]) rfl rfl (xc_ly hS ly12) rfl (Nat.le_of_ble_eq_true rfl) ?_
        refine t_X8_horse hS ?_
        refine jw_mono (jw_bind h) (fun q9 h => ?_)
        show jx_Ex _ _ _ _ [.int q9.1, .int q8.1] (jh S q9.2) _
        refine xo_61 (t := jm_b156_71) rfl (fun hc10 => ?_) (fun hc10 => ?_)
        · replace h := jw_pos hc10 h
          refine xo_2 rfl ?_
          refine xc_33 (i := 3) (q := 12) hS ly0 rfl (xc_P hS (by decide)) ?_
          refine xo_0 rfl ?_
          refine xo_0 rfl ?_
          refine xo_49 (st' := []) rfl rfl (xc_ly hS ly12) rfl (Nat.le_of_ble_eq_true rfl) ?_
          refine t_X8_setPlace hS ?_
          refine jw_mono (jw_bind h) (fun q11 h => ?_)
          show jx_Ex _ _ _ _ [] (jh S q11.2) _
          refine xo_2 rfl ?_
          refine xc_33 (i := 3) (q := 12) hS ly0 rfl (xc_P hS (by decide)) ?_
          refine xo_0 rfl ?_
          refine xo_49 (st' := []) rfl rfl (xc_ly hS ly12) rfl (Nat.le_of_ble_eq_true rfl) ?_
          refine t_X8_setHorse hS ?_
          refine jw_mono (jw_bind h) (fun q12 h => ?_)
          show jx_Ex _ _ _ _ [] (jh S q12.2) _
          refine xo_0 rfl ?_
          replace h := jw_some h
          exact xo_69 h
        · replace h := jw_neg hc10 h
          refine xo_9 ?_
          replace h := jw_some h
          exact xo_69 h
      · replace h := jw_neg hc7 h
        refine xo_9 ?_
        replace h := jw_some h
        exact xo_69 h
    · replace h := jw_neg hc4 h
      refine xo_9 ?_
      replace h := jw_some h
      exact xo_69 h
  · replace h := jw_neg hc2 h
    refine xo_8 ?_
    replace h := jw_some h
    exact xo_69 h
