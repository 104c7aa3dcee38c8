/-! ===== methods as functions ===== -/
/-- Standing.copy, at ['x.history.past[9]', 'x.now'] -/
def f_X8_copy_at34_12 (σ : jT) : Option (Int32 × jT) :=
  some (0, (gC σ 13 35 0 0 28))
theorem t_X8_copy_at34_12 {S : jS} (hS : jCok S) {d : Nat} {Q : Option Value → jx_H → Prop} {σ : jT} (h : jw (f_X8_copy_at34_12 σ) (fun q => Q none (jh S q.2))) : jx_Sp (d) 89 [.ref 34, .ref 12] (jh S σ) Q := by
  refine ⟨jm_i89, jm_at89, rfl, rfl, ?_⟩
  show jx_Ex _ jm_l89 jm_b89_0 [.ref 34, .ref 12] [] _ _
  unfold f_X8_copy_at34_12 at h
  refine xo_2 rfl ?_
  refine xc_33 (i := 768) (q := 13) hS ly12 rfl (xc_P hS (by decide)) ?_
  refine xo_8 ?_
  refine xo_2 rfl ?_
  refine xc_33 (i := 2176) (q := 35) hS ly34 rfl (xc_P hS (by decide)) ?_
  refine xo_8 ?_
  refine xo_9 ?_
  refine xc_53 (sp' := 0) (dp' := 0) (n' := 28) hS ly13 ly35 ⟨Nat.le_of_ble_eq_true rfl, Nat.le_of_ble_eq_true rfl⟩ ⟨Nat.le_of_ble_eq_true rfl, Nat.le_of_ble_eq_true rfl⟩ (by decide) (by decide) (by decide) (by decide) (by decide) (by decide) (Nat.le_of_ble_eq_true rfl) ?_
  replace h := jw_some h
  exact xo_71 h
/-- Standing.copy, at ['x.history.past[10]', 'x.now'] -/
def f_X8_copy_at36_12 (σ : jT) : Option (Int32 × jT) :=
  some (0, (gC σ 13 37 0 0 28))
theorem t_X8_copy_at36_12 {S : jS} (hS : jCok S) {d : Nat} {Q : Option Value → jx_H → Prop} {σ : jT} (h : jw (f_X8_copy_at36_12 σ) (fun q => Q none (jh S q.2))) : jx_Sp (d) 89 [.ref 36, .ref 12] (jh S σ) Q := by
  refine ⟨jm_i89, jm_at89, rfl, rfl, ?_⟩
  show jx_Ex _ jm_l89 jm_b89_0 [.ref 36, .ref 12] [] _ _
  unfold f_X8_copy_at36_12 at h
  refine xo_2 rfl ?_
  refine xc_33 (i := 768) (q := 13) hS ly12 rfl (xc_P hS (by decide)) ?_
  refine xo_8 ?_
  refine xo_2 rfl ?_
  refine xc_33 (i := 2304) (q := 37) hS ly36 rfl (xc_P hS (by decide)) ?_
  refine xo_8 ?_
  refine xo_9 ?_
  refine xc_53 (sp' := 0) (dp' := 0) (n' := 28) hS ly13 ly37 ⟨Nat.le_of_ble_eq_true rfl, Nat.le_of_ble_eq_true rfl⟩ ⟨Nat.le_of_ble_eq_true rfl, Nat.le_of_ble_eq_true rfl⟩ (by decide) (by decide) (by decide) (by decide) (by decide) (by decide) (Nat.le_of_ble_eq_true rfl) ?_
  replace h := jw_some h
  exact xo_71 h
/-- Standing.copy, at ['x.history.past[11]', 'x.now'] -/
def f_X8_copy_at38_12 (σ : jT) : Option (Int32 × jT) :=
  some (0, (gC σ 13 39 0 0 28))
theorem t_X8_copy_at38_12 {S : jS} (hS : jCok S) {d : Nat} {Q : Option Value → jx_H → Prop} {σ : jT} (h : jw (f_X8_copy_at38_12 σ) (fun q => Q none (jh S q.2))) : jx_Sp (d) 89 [.ref 38, .ref 12] (jh S σ) Q := by
  refine ⟨jm_i89, jm_at89, rfl, rfl, ?_⟩
  show jx_Ex _ jm_l89 jm_b89_0 [.ref 38, .ref 12] [] _ _
  unfold f_X8_copy_at38_12 at h
  refine xo_2 rfl ?_
  refine xc_33 (i := 768) (q := 13) hS ly12 rfl (xc_P hS (by decide)) ?_
  refine xo_8 ?_
  refine xo_2 rfl ?_
  refine xc_33 (i := 2432) (q := 39) hS ly38 rfl (xc_P hS (by decide)) ?_
  refine xo_8 ?_
  refine xo_9 ?_
  refine xc_53 (sp' := 0) (dp' := 0) (n' := 28) hS ly13 ly39 ⟨Nat.le_of_ble_eq_true rfl, Nat.le_of_ble_eq_true rfl⟩ ⟨Nat.le_of_ble_eq_true rfl, Nat.le_of_ble_eq_true rfl⟩ (by decide) (by decide) (by decide) (by decide) (by decide) (by decide) (Nat.le_of_ble_eq_true rfl) ?_
  replace h := jw_some h
  exact xo_71 h
/-- Standing.copy, at ['x.history.past[12]', 'x.now'] -/
def f_X8_copy_at40_12 (σ : jT) : Option (Int32 × jT) :=
  some (0, (gC σ 13 41 0 0 28))
theorem t_X8_copy_at40_12 {S : jS} (hS : jCok S) {d : Nat} {Q : Option Value → jx_H → Prop} {σ : jT} (h : jw (f_X8_copy_at40_12 σ) (fun q => Q none (jh S q.2))) : jx_Sp (d) 89 [.ref 40, .ref 12] (jh S σ) Q := by
  refine ⟨jm_i89, jm_at89, rfl, rfl, ?_⟩
  show jx_Ex _ jm_l89 jm_b89_0 [.ref 40, .ref 12] [] _ _
  unfold f_X8_copy_at40_12 at h
  refine xo_2 rfl ?_
  refine xc_33 (i := 768) (q := 13) hS ly12 rfl (xc_P hS (by decide)) ?_
  refine xo_8 ?_
  refine xo_2 rfl ?_
  refine xc_33 (i := 2560) (q := 41) hS ly40 rfl (xc_P hS (by decide)) ?_
  refine xo_8 ?_
  refine xo_9 ?_
  refine xc_53 (sp' := 0) (dp' := 0) (n' := 28) hS ly13 ly41 ⟨Nat.le_of_ble_eq_true rfl, Nat.le_of_ble_eq_true rfl⟩ ⟨Nat.le_of_ble_eq_true rfl, Nat.le_of_ble_eq_true rfl⟩ (by decide) (by decide) (by decide) (by decide) (by decide) (by decide) (Nat.le_of_ble_eq_true rfl) ?_
  replace h := jw_some h
  exact xo_71 h
/-- History.note, at ['x.history', 'x.now'] -/
def f_X2_note_12 (σ : jT) : Option (Int32 × jT) :=
  if (σ.1 898) = 0 then
    (f_X8_copy_at16_12 σ).bind fun q2 =>
    some (0, q2.2)
  else
  if (σ.1 898) = 1 then
    (f_X8_copy_at18_12 σ).bind fun q4 =>
    some (0, q4.2)
  else
  if (σ.1 898) = 2 then
    (f_X8_copy_at20_12 σ).bind fun q6 =>
    some (0, q6.2)
  else
  if (σ.1 898) = 3 then
    (f_X8_copy_at22_12 σ).bind fun q8 =>
    some (0, q8.2)
  else
  if (σ.1 898) = 4 then
    (f_X8_copy_at24_12 σ).bind fun q10 =>
    some (0, q10.2)
  else
  if (σ.1 898) = 5 then
    (f_X8_copy_at26_12 σ).bind fun q12 =>
    some (0, q12.2)
  else
  if (σ.1 898) = 6 then
    (f_X8_copy_at28_12 σ).bind fun q14 =>
    some (0, q14.2)
  else
  if (σ.1 898) = 7 then
    (f_X8_copy_at30_12 σ).bind fun q16 =>
    some (0, q16.2)
  else
  if (σ.1 898) = 8 then
    (f_X8_copy_at32_12 σ).bind fun q18 =>
    some (0, q18.2)
  else
  if (σ.1 898) = 9 then
    (f_X8_copy_at34_12 σ).bind fun q20 =>
    some (0, q20.2)
  else
  if (σ.1 898) = 10 then
    (f_X8_copy_at36_12 σ).bind fun q22 =>
    some (0, q22.2)
  else
  if (σ.1 898) = 11 then
    (f_X8_copy_at38_12 σ).bind fun q24 =>
    some (0, q24.2)
  else
  if (σ.1 898) = 12 then
    (f_X8_copy_at40_12 σ).bind fun q26 =>
    some (0, q26.2)
  else
  none
theorem t_X2_note_12 {S : jS} (hS : jCok S) {d : Nat} {Q : Option Value → jx_H → Prop} {σ : jT} (h : jw (f_X2_note_12 σ) (fun q => Q none (jh S q.2))) : jx_Sp (d + 1) 21 [.ref 14, .ref 12] (jh S σ) Q := by
  refine ⟨jm_i21, jm_at21, rfl, rfl, ?_⟩
  show jx_Ex _ jm_l21 jm_b21_0 [.ref 14, .ref 12] [] _ _
  unfold f_X2_note_12 at h
  refine xo_2 rfl ?_
  refine xc_33 (i := 896) (q := 15) hS ly14 rfl (xc_P hS (by decide)) ?_
  refine xo_2 rfl ?_
  refine xc_32 (i := 898) (v := (σ.1 898)) hS ly14 rfl ⟨Nat.le_of_ble_eq_true rfl, Nat.le_of_ble_eq_true rfl⟩ rfl ?_
  by_cases hc1 : (σ.1 898) = 0
  · replace h := jw_pos hc1 h
    refine xc_44 (j := 960) (q := 16) hS ly15 (by decide) (by rw [hc1]; decide) (by rw [hc1]; decide) (xc_P hS (by decide)) ?_
    refine xo_2 rfl ?_
    refine xo_49 (st' := []) rfl rfl (xc_ly hS ly16) rfl (Nat.le_of_ble_eq_true rfl) ?_
    refine t_X8_copy_at16_12 hS ?_
    refine jw_mono (jw_bind h) (fun q2 h => ?_)
    show jx_Ex _ _ _ _ [] (jh S q2.2) _
    replace h := jw_some h
    exact xo_71 h
  replace h := jw_neg hc1 h
  by_cases hc3 : (σ.1 898) = 1
  · replace h := jw_pos hc3 h
    refine xc_44 (j := 961) (q := 18) hS ly15 (by decide) (by rw [hc3]; decide) (by rw [hc3]; decide) (xc_P hS (by decide)) ?_
    refine xo_2 rfl ?_
    refine xo_49 (st' := []) rfl rfl (xc_ly hS ly18) rfl (Nat.le_of_ble_eq_true rfl) ?_
    refine t_X8_copy_at18_12 hS ?_
    refine jw_mono (jw_bind h) (fun q4 h => ?_)
    show jx_Ex _ _ _ _ [] (jh S q4.2) _
    replace h := jw_some h
    exact xo_71 h
  replace h := jw_neg hc3 h
  by_cases hc5 : (σ.1 898) = 2
  · replace h := jw_pos hc5 h
    refine xc_44 (j := 962) (q := 20) hS ly15 (by decide) (by rw [hc5]; decide) (by rw [hc5]; decide) (xc_P hS (by decide)) ?_
    refine xo_2 rfl ?_
    refine xo_49 (st' := []) rfl rfl (xc_ly hS ly20) rfl (Nat.le_of_ble_eq_true rfl) ?_
    refine t_X8_copy_at20_12 hS ?_
    refine jw_mono (jw_bind h) (fun q6 h => ?_)
    show jx_Ex _ _ _ _ [] (jh S q6.2) _
    replace h := jw_some h
    exact xo_71 h
  replace h := jw_neg hc5 h
  by_cases hc7 : (σ.1 898) = 3
  · replace h := jw_pos hc7 h
    refine xc_44 (j := 963) (q := 22) hS ly15 (by decide) (by rw [hc7]; decide) (by rw [hc7]; decide) (xc_P hS (by decide)) ?_
    refine xo_2 rfl ?_
    refine xo_49 (st' := []) rfl rfl (xc_ly hS ly22) rfl (Nat.le_of_ble_eq_true rfl) ?_
    refine t_X8_copy_at22_12 hS ?_
    refine jw_mono (jw_bind h) (fun q8 h => ?_)
    show jx_Ex _ _ _ _ [] (jh S q8.2) _
    replace h := jw_some h
    exact xo_71 h
  replace h := jw_neg hc7 h
  by_cases hc9 : (σ.1 898) = 4
  · replace h := jw_pos hc9 h
    refine xc_44 (j := 964) (q := 24) hS ly15 (by decide) (by rw [hc9]; decide) (by rw [hc9]; decide) (xc_P hS (by decide)) ?_
    refine xo_2 rfl ?_
    refine xo_49 (st' := []) rfl rfl (xc_ly hS ly24) rfl (Nat.le_of_ble_eq_true rfl) ?_
    refine t_X8_copy_at24_12 hS ?_
    refine jw_mono (jw_bind h) (fun q10 h => ?_)
    show jx_Ex _ _ _ _ [] (jh S q10.2) _
    replace h := jw_some h
    exact xo_71 h
  replace h := jw_neg hc9 h
  by_cases hc11 : (σ.1 898) = 5
  · replace h := jw_pos hc11 h
    refine xc_44 (j := 965) (q := 26) hS ly15 (by decide) (by rw [hc11]; decide) (by rw [hc11]; decide) (xc_P hS (by decide)) ?_
    refine xo_2 rfl ?_
    refine xo_49 (st' := []) rfl rfl (xc_ly hS ly26) rfl (Nat.le_of_ble_eq_true rfl) ?_
    refine t_X8_copy_at26_12 hS ?_
    refine jw_mono (jw_bind h) (fun q12 h => ?_)
    show jx_Ex _ _ _ _ [] (jh S q12.2) _
    replace h := jw_some h
    exact xo_71 h
  replace h := jw_neg hc11 h
  by_cases hc13 : (σ.1 898) = 6
  · replace h := jw_pos hc13 h
    refine xc_44 (j := 966) (q := 28) hS ly15 (by decide) (by rw [hc13]; decide) (by rw [hc13]; decide) (xc_P hS (by decide)) ?_
    refine xo_2 rfl ?_
    refine xo_49 (st' := []) rfl rfl (xc_ly hS ly28) rfl (Nat.le_of_ble_eq_true rfl) ?_
    refine t_X8_copy_at28_12 hS ?_
    refine jw_mono (jw_bind h) (fun q14 h => ?_)
    show jx_Ex _ _ _ _ [] (jh S q14.2) _
    replace h := jw_some h
    exact xo_71 h
  replace h := jw_neg hc13 h
  by_cases hc15 : (σ.1 898) = 7
  · replace h := jw_pos hc15 h
    refine xc_44 (j := 967) (q := 30) hS ly15 (by decide) (by rw [hc15]; decide) (by rw [hc15]; decide) (xc_P hS (by decide)) ?_
    refine xo_2 rfl ?_
    refine xo_49 (st' := []) rfl rfl (xc_ly hS ly30) rfl (Nat.le_of_ble_eq_true rfl) ?_
    refine t_X8_copy_at30_12 hS ?_
    refine jw_mono (jw_bind h) (fun q16 h => ?_)
    show jx_Ex _ _ _ _ [] (jh S q16.2) _
    replace h := jw_some h
    exact xo_71 h
  replace h := jw_neg hc15 h
  by_cases hc17 : (σ.1 898) = 8
  · replace h := jw_pos hc17 h
    refine xc_44 (j := 968) (q := 32) hS ly15 (by decide) (by rw [hc17]; decide) (by rw [hc17]; decide) (xc_P hS (by decide)) ?_
    refine xo_2 rfl ?_
    refine xo_49 (st' := []) rfl rfl (xc_ly hS ly32) rfl (Nat.le_of_ble_eq_true rfl) ?_
    refine t_X8_copy_at32_12 hS ?_
    refine jw_mono (jw_bind h) (fun q18 h => ?_)
    show jx_Ex _ _ _ _ [] (jh S q18.2) _
    replace h := jw_some h
    exact xo_71 h
  replace h := jw_neg hc17 h
  by_cases hc19 : (σ.1 898) = 9
  · replace h := jw_pos hc19 h
    refine xc_44 (j := 969) (q := 34) hS ly15 (by decide) (by rw [hc19]; decide) (by rw [hc19]; decide) (xc_P hS (by decide)) ?_
    refine xo_2 rfl ?_
    refine xo_49 (st' := []) rfl rfl (xc_ly hS ly34) rfl (Nat.le_of_ble_eq_true rfl) ?_
    refine t_X8_copy_at34_12 hS ?_
    refine jw_mono (jw_bind h) (fun q20 h => ?_)
    show jx_Ex _ _ _ _ [] (jh S q20.2) _
    replace h := jw_some h
    exact xo_71 h
  replace h := jw_neg hc19 h
  by_cases hc21 : (σ.1 898) = 10
  · replace h := jw_pos hc21 h
    refine xc_44 (j := 970) (q := 36) hS ly15 (by decide) (by rw [hc21]; decide) (by rw [hc21]; decide) (xc_P hS (by decide)) ?_
    refine xo_2 rfl ?_
    refine xo_49 (st' := []) rfl rfl (xc_ly hS ly36) rfl (Nat.le_of_ble_eq_true rfl) ?_
    refine t_X8_copy_at36_12 hS ?_
    refine jw_mono (jw_bind h) (fun q22 h => ?_)
    show jx_Ex _ _ _ _ [] (jh S q22.2) _
    replace h := jw_some h
    exact xo_71 h
  replace h := jw_neg hc21 h
  by_cases hc23 : (σ.1 898) = 11
  · replace h := jw_pos hc23 h
    refine xc_44 (j := 971) (q := 38) hS ly15 (by decide) (by rw [hc23]; decide) (by rw [hc23]; decide) (xc_P hS (by decide)) ?_
    refine xo_2 rfl ?_
    refine xo_49 (st' := []) rfl rfl (xc_ly hS ly38) rfl (Nat.le_of_ble_eq_true rfl) ?_
    refine t_X8_copy_at38_12 hS ?_
    refine jw_mono (jw_bind h) (fun q24 h => ?_)
    show jx_Ex _ _ _ _ [] (jh S q24.2) _
    replace h := jw_some h
    exact xo_71 h
  replace h := jw_neg hc23 h
  by_cases hc25 : (σ.1 898) = 12
  · replace h := jw_pos hc25 h
    refine xc_44 (j := 972) (q := 40) hS ly15 (by decide) (by rw [hc25]; decide) (by rw [hc25]; decide) (xc_P hS (by decide)) ?_
    refine xo_2 rfl ?_
    refine xo_49 (st' := []) rfl rfl (xc_ly hS ly40) rfl (Nat.le_of_ble_eq_true rfl) ?_
    refine t_X8_copy_at40_12 hS ?_
    refine jw_mono (jw_bind h) (fun q26 h => ?_)
    show jx_Ex _ _ _ _ [] (jh S q26.2) _
    replace h := jw_some h
    exact xo_71 h
  replace h := jw_neg hc25 h
  exact jw_none h
/-- OfDifferentMinds.areTwo, at ['x', 'int', 'int'] -/
def f_X10_areTwo (x1 : Int32) (x2 : Int32) (σ : jT) : Option (Int32 × jT) :=
  (f_X3_hasRider x1 σ).bind fun q1 =>
  if q1.1 = 0 then
    some (0, q1.2)
  else
    (f_X3_hasRider x2 q1.2).bind fun q3 =>
    if q3.1 = 0 then
      some (0, q3.2)
    else
      if x1 = x2 then
        some (0, q3.2)
      else
        some (1, q3.2)
theorem t_X10_areTwo {S : jS} (hS : jCok S) {d : Nat} {Q : Option Value → jx_H → Prop} {x1 : Int32} {x2 : Int32} {σ : jT} (h : jw (f_X10_areTwo x1 x2 σ) (fun q => Q (some (.int q.1)) (jh S q.2))) : jx_Sp (d + 1) 151 [.ref 0, .int x1, .int x2] (jh S σ) Q := by
  refine ⟨jm_i151, jm_at151, rfl, rfl, ?_⟩
  show jx_Ex _ jm_l151 jm_b151_0 [.ref 0, .int x1, .int x2] [] _ _
  unfold f_X10_areTwo at h
  refine xo_2 rfl ?_
  refine xc_33 (i := 1) (q := 3) hS ly0 rfl (xc_P hS (by decide)) ?_
  refine xo_0 rfl ?_
  refine xo_49 (st' := []) rfl rfl (xc_ly hS ly3) rfl (Nat.le_of_ble_eq_true rfl) ?_
  refine t_X3_hasRider hS ?_
  refine jw_mono (jw_bind h) (fun q1 h => ?_)
  show jx_Ex _ _ _ _ [.int q1.1] (jh S q1.2) _
  refine xo_55 (t := jm_b151_31) rfl (fun hc2 => ?_) (fun hc2 => ?_)
  · replace h := jw_pos hc2 h
    refine xo_8 ?_
    replace h := jw_some h
    exact xo_70 (by decide) h
  · replace h := jw_neg hc2 h
    refine xo_2 rfl ?_
    refine xc_33 (i := 1) (q := 3) hS ly0 rfl (xc_P hS (by decide)) ?_
    refine xo_0 rfl ?_
    refine xo_49 (st' := []) rfl rfl (xc_ly hS ly3) rfl (Nat.le_of_ble_eq_true rfl) ?_
    refine t_X3_hasRider hS ?_
    refine jw_mono (jw_bind h) (fun q3 h => ?_)
    show jx_Ex _ _ _ _ [.int q3.1] (jh S q3.2) _
    refine xo_55 (t := jm_b151_31) rfl (fun hc4 => ?_) (fun hc4 => ?_)
    · replace h := jw_pos hc4 h
      refine xo_8 ?_
      replace h := jw_some h
      exact xo_70 (by decide) h
    · replace h := jw_neg hc4 h
      refine xo_0 rfl ?_
      refine xo_0 rfl ?_
      refine xo_61 (t := jm_b151_31) rfl (fun hc5 => ?_) (fun hc5 => ?_)
      · replace h := jw_pos hc5 h
        refine xo_8 ?_
        replace h := jw_some h
        exact xo_70 (by decide) h
      · replace h := jw_neg hc5 h
        refine xo_8 ?_
        refine xo_54 (t := jm_b151_32) rfl ?_
        replace h := jw_some h
        exact xo_70 (by decide) h
/-- Standing.isMounted, at ['x.now'] -/
def f_X8_isMounted (σ : jT) : Option (Int32 × jT) :=
  if (σ.2 13 25) = (-1) then
    some (0, σ)
  else
    some (1, σ)
theorem t_X8_isMounted {S : jS} (hS : jCok S) {d : Nat} {Q : Option Value → jx_H → Prop} {σ : jT} (h : jw (f_X8_isMounted σ) (fun q => Q (some (.int q.1)) (jh S q.2))) : jx_Sp (d) 109 [.ref 12] (jh S σ) Q := by
  refine ⟨jm_i109, jm_at109, rfl, rfl, ?_⟩
  show jx_Ex _ jm_l109 jm_b109_0 [.ref 12] [] _ _
  unfold f_X8_isMounted at h
  refine xo_2 rfl ?_
  refine xc_33 (i := 768) (q := 13) hS ly12 rfl (xc_P hS (by decide)) ?_
  refine xo_9 ?_
  refine xc_38 (j := 25) (v := (σ.2 13 25)) hS ly13 ⟨Nat.le_of_ble_eq_true rfl, Nat.le_of_ble_eq_true rfl⟩ (by decide) (by decide) rfl ?_
  refine xo_8 ?_
  refine xo_61 (t := jm_b109_15) rfl (fun hc1 => ?_) (fun hc1 => ?_)
  · replace h := jw_pos hc1 h
    refine xo_8 ?_
    replace h := jw_some h
    exact xo_70 (by decide) h
  · replace h := jw_neg hc1 h
    refine xo_8 ?_
    refine xo_54 (t := jm_b109_16) rfl ?_
    replace h := jw_some h
    exact xo_70 (by decide) h
/-- Standing.horse, at ['x.now'] -/
def f_X8_horse (σ : jT) : Option (Int32 × jT) :=
  some ((σ.2 13 24), σ)
theorem t_X8_horse {S : jS} (hS : jCok S) {d : Nat} {Q : Option Value → jx_H → Prop} {σ : jT} (h : jw (f_X8_horse σ) (fun q => Q (some (.int q.1)) (jh S q.2))) : jx_Sp (d) 103 [.ref 12] (jh S σ) Q := by
  refine ⟨jm_i103, jm_at103, rfl, rfl, ?_⟩
  show jx_Ex _ jm_l103 jm_b103_0 [.ref 12] [] _ _
  unfold f_X8_horse at h
  refine xo_2 rfl ?_
  refine xc_33 (i := 768) (q := 13) hS ly12 rfl (xc_P hS (by decide)) ?_
  refine xo_9 ?_
  refine xc_38 (j := 24) (v := (σ.2 13 24)) hS ly13 ⟨Nat.le_of_ble_eq_true rfl, Nat.le_of_ble_eq_true rfl⟩ (by decide) (by decide) rfl ?_
  replace h := jw_some h
  exact xo_69 h
/-- Standing.placeOf, at ['x.now', 'int'] -/
def f_X8_placeOf (x1 : Int32) (σ : jT) : Option (Int32 × jT) :=
  (f_X8_get 6 x1 σ).bind fun q1 =>
  some (q1.1, q1.2)
theorem t_X8_placeOf {S : jS} (hS : jCok S) {d : Nat} {Q : Option Value → jx_H → Prop} {x1 : Int32} {σ : jT} (h : jw (f_X8_placeOf x1 σ) (fun q => Q (some (.int q.1)) (jh S q.2))) : jx_Sp (d + 1) 95 [.ref 12, .int x1] (jh S σ) Q := by
  refine ⟨jm_i95, jm_at95, rfl, rfl, ?_⟩
  show jx_Ex _ jm_l95 jm_b95_0 [.ref 12, .int x1] [] _ _
  unfold f_X8_placeOf at h
  refine xo_2 rfl ?_
  refine xo_9 ?_
  refine xo_0 rfl ?_
  refine xo_49 (st' := []) rfl rfl (xc_ly hS ly12) rfl (Nat.le_of_ble_eq_true rfl) ?_
  refine t_X8_get hS ?_
  refine jw_mono (jw_bind h) (fun q1 h => ?_)
  show jx_Ex _ _ _ _ [.int q1.1] (jh S q1.2) _
  replace h := jw_some h
  exact xo_69 h
/-- OfDifferentMinds.getOn, at ['x', 'int', 'int'] -/
def f_X10_getOn (x1 : Int32) (x2 : Int32) (σ : jT) : Option (Int32 × jT) :=
  (f_X10_areTwo x1 x2 σ).bind fun q1 =>
  if ¬ q1.1 = 0 then
    (f_X8_isMounted q1.2).bind fun q3 =>
    if q3.1 = 0 then
      (f_X8_horse q3.2).bind fun q5 =>
      (f_X8_placeOf x1 q5.2).bind fun q6 =>
      if ¬ q6.1 = q5.1 then
        some ((-3), q6.2)
      else
        (f_X8_placeOf x2 q6.2).bind fun q8 =>
        if q8.1 = q5.1 then
          (f_X8_seat x1 x2 q8.2).bind fun q10 =>
          (f_X10_viewAt x1 q5.1 q10.2).bind fun q11 =>
          (f_X10_viewAt x2 q5.1 q11.2).bind fun q12 =>
          if q11.1 = q12.1 then
            some (0, q12.2)
          else
            some (1, q12.2)
        else
          some ((-3), q8.2)
    else
      some ((-2), q3.2)
  else
    some ((-1), q1.2)
theorem t_X10_getOn {S : jS} (hS : jCok S) {d : Nat} {Q : Option Value → jx_H → Prop} {x1 : Int32} {x2 : Int32} {σ : jT} (h : jw (f_X10_getOn x1 x2 σ) (fun q => Q (some (.int q.1)) (jh S q.2))) : jx_Sp (d + 4) 152 [.ref 0, .int x1, .int x2] (jh S σ) Q := by
  refine ⟨jm_i152, jm_at152, rfl, rfl, ?_⟩
  show jx_Ex _ jm_l152 jm_b152_0 [.ref 0, .int x1, .int x2, .retAddr 0] [] _ _
  unfold f_X10_getOn at h
  refine xo_2 rfl ?_
  refine xo_0 rfl ?_
  refine xo_0 rfl ?_
  refine xo_49 (st' := []) rfl rfl (xc_ly hS ly0) rfl (Nat.le_of_ble_eq_true rfl) ?_
  refine t_X10_areTwo hS ?_
  refine jw_mono (jw_bind h) (fun q1 h => ?_)
  show jx_Ex _ _ _ _ [.int q1.1] (jh S q1.2) _
  refine xo_56 (t := jm_b152_11) rfl (fun hc2 => ?_) (fun hc2 => ?_)
  · replace h := jw_pos hc2 h
    refine xo_2 rfl ?_
    refine xc_33 (i := 3) (q := 12) hS ly0 rfl (xc_P hS (by decide)) ?_
    refine xo_49 (st' := []) rfl rfl (xc_ly hS ly12) rfl (Nat.le_of_ble_eq_true rfl) ?_
    refine t_X8_isMounted hS ?_
    refine jw_mono (jw_bind h) (fun q3 h => ?_)
    show jx_Ex _ _ _ _ [.int q3.1] (jh S q3.2) _
    refine xo_55 (t := jm_b152_24) rfl (fun hc4 => ?_) (fun hc4 => ?_)
    · replace h := jw_pos hc4 h
      refine xo_2 rfl ?_
      refine xc_33 (i := 3) (q := 12) hS ly0 rfl (xc_P hS (by decide)) ?_
      refine xo_49 (st' := []) rfl rfl (xc_ly hS ly12) rfl (Nat.le_of_ble_eq_true rfl) ?_
      refine t_X8_horse hS ?_
      refine jw_mono (jw_bind h) (fun q5 h => ?_)
      show jx_Ex _ _ _ _ [.int q5.1] (jh S q5.2) _
      refine xo_4 (ls' := [.ref 0, .int x1, .int x2, .int q5.1]) rfl ?_
      refine xo_2 rfl ?_
      refine xc_33 (i := 3) (q := 12) hS ly0 rfl (xc_P hS (by decide)) ?_
      refine xo_0 rfl ?_
      refine xo_49 (st' := []) rfl rfl (xc_ly hS ly12) rfl (Nat.le_of_ble_eq_true rfl) ?_
      refine t_X8_placeOf hS ?_
      refine jw_mono (jw_bind h) (fun q6 h => ?_)
      show jx_Ex _ _ _ _ [.int q6.1] (jh S q6.2) _
      refine xo_0 rfl ?_
      refine xo_62 (t := jm_b152_56) rfl (fun hc7 => ?_) (fun hc7 => ?_)
      · replace h := jw_pos hc7 h
        refine xo_9 ?_
        replace h := jw_some h
        exact xo_69 h
      · replace h := jw_neg hc7 h
        refine xo_2 rfl ?_
        refine xc_33 (i := 3) (q := 12) hS ly0 rfl (xc_P hS (by decide)) ?_
        refine xo_0 rfl ?_
        refine xo_49 (st' := []) rfl rfl (xc_ly hS ly12) rfl (Nat.le_of_ble_eq_true rfl) ?_
        refine t_X8_placeOf hS ?_
        refine jw_mono (jw_bind h) (fun q8 h => ?_)
        show jx_Ex _ _ _ _ [.int q8.1] (jh S q8.2) _
        refine xo_0 rfl ?_
        refine xo_61 (t := jm_b152_59) rfl (fun hc9 => ?_) (fun hc9 => ?_)
        · replace h := jw_pos hc9 h
          refine xo_2 rfl ?_
          refine xc_33 (i := 3) (q := 12) hS ly0 rfl (xc_P hS (by decide)) ?_
          refine xo_0 rfl ?_
          refine xo_0 rfl ?_
          refine xo_49 (st' := []) rfl rfl (xc_ly hS ly12) rfl (Nat.le_of_ble_eq_true rfl) ?_
          refine t_X8_seat hS ?_
          refine jw_mono (jw_bind h) (fun q10 h => ?_)
          show jx_Ex _ _ _ _ [] (jh S q10.2) _
          refine xo_2 rfl ?_
          refine xo_0 rfl ?_
          refine xo_0 rfl ?_
          refine xo_49 (st' := []) rfl rfl (xc_ly hS ly0) rfl (Nat.le_of_ble_eq_true rfl) ?_
          refine t_X10_viewAt hS ?_
          refine jw_mono (jw_bind h) (fun q11 h => ?_)
          show jx_Ex _ _ _ _ [.int q11.1] (jh S q11.2) _
          refine xo_2 rfl ?_
          refine xo_0 rfl ?_
          refine xo_0 rfl ?_
          refine xo_49 (st' := [.int q11.1]) rfl rfl (xc_ly hS ly0) rfl (Nat.le_of_ble_eq_true rfl) ?_
          refine t_X10_viewAt hS ?_
          refine jw_mono (jw_bind h) (fun q12 h => ?_)
          show jx_Ex _ _ _ _ [.int q12.1, .int q11.1] (jh S q12.2) _
          refine xo_61 (t := jm_b152_87) rfl (fun hc13 => ?_) (fun hc13 => ?_)
          · replace h := jw_pos hc13 h
            refine xo_8 ?_
            replace h := jw_some h
            exact xo_69 h
          · replace h := jw_neg hc13 h
            refine xo_8 ?_
            refine xo_54 (t := jm_b152_88) rfl ?_
            replace h := jw_some h
            exact xo_69 h
        · replace h := jw_neg hc9 h
          refine xo_9 ?_
          replace h := jw_some h
          exact xo_69 h
    · replace h := jw_neg hc4 h
      refine xo_9 ?_
      replace h := jw_some h
      exact xo_69 h
  · replace h := jw_neg hc2 h
    refine xo_8 ?_
    replace h := jw_some h
    exact xo_69 h
/-- History.push, at ['x.history'] -/
def f_X2_push (σ : jT) : Option (Int32 × jT) :=
  some (0, (gs (gs σ 898 (((σ.1 898) + 1) - ((σ.1 898) + 1) / 13 * 13)) 899 (jx_min ((σ.1 899) + 1) 12)))
theorem t_X2_push {S : jS} (hS : jCok S) {d : Nat} {Q : Option Value → jx_H → Prop} {σ : jT} (h : jw (f_X2_push σ) (fun q => Q none (jh S q.2))) : jx_Sp (d) 22 [.ref 14] (jh S σ) Q := by
  refine ⟨jm_i22, jm_at22, rfl, rfl, ?_⟩
  show jx_Ex _ jm_l22 jm_b22_0 [.ref 14] [] _ _
  unfold f_X2_push at h
  refine xo_2 rfl ?_
  refine xo_2 rfl ?_
  refine xc_32 (i := 898) (v := (σ.1 898)) hS ly14 rfl ⟨Nat.le_of_ble_eq_true rfl, Nat.le_of_ble_eq_true rfl⟩ rfl ?_
  refine xo_8 ?_
  refine xo_14 ?_
  refine xo_9 ?_
  refine xo_18 (by decide) ?_
  refine xc_34 (i := 898) hS ly14 rfl ⟨Nat.le_of_ble_eq_true rfl, Nat.le_of_ble_eq_true rfl⟩ ?_
  refine xo_2 rfl ?_
  refine xo_2 rfl ?_
  refine xc_32 (i := 899) (v := (σ.1 899)) hS ly14 rfl ⟨Nat.le_of_ble_eq_true rfl, Nat.le_of_ble_eq_true rfl⟩ rfl ?_
  refine xo_8 ?_
  refine xo_14 ?_
  refine xo_9 ?_
  refine xo_73 (Nat.le_of_ble_eq_true rfl) ?_
  refine xc_34 (i := 899) hS ly14 rfl ⟨Nat.le_of_ble_eq_true rfl, Nat.le_of_ble_eq_true rfl⟩ ?_
  replace h := jw_some h
  exact xo_71 h
/-- OfDifferentMinds.noted, at ['x', 'int'] -/
def f_X10_noted (x1 : Int32) (σ : jT) : Option (Int32 × jT) :=
  if x1 < 0 then
    some (x1, σ)
  else
    (f_X2_push σ).bind fun q2 =>
    some (x1, q2.2)
theorem t_X10_noted {S : jS} (hS : jCok S) {d : Nat} {Q : Option Value → jx_H → Prop} {x1 : Int32} {σ : jT} (h : jw (f_X10_noted x1 σ) (fun q => Q (some (.int q.1)) (jh S q.2))) : jx_Sp (d + 1) 150 [.ref 0, .int x1] (jh S σ) Q := by
  refine ⟨jm_i150, jm_at150, rfl, rfl, ?_⟩
  show jx_Ex _ jm_l150 jm_b150_0 [.ref 0, .int x1] [] _ _
  unfold f_X10_noted at h
  refine xo_0 rfl ?_
  refine xo_57 (t := jm_b150_11) rfl (fun hc1 => ?_) (fun hc1 => ?_)
  · replace h := jw_pos hc1 h
    refine xo_0 rfl ?_
    replace h := jw_some h
    exact xo_69 h
  · replace h := jw_neg hc1 h
    refine xo_2 rfl ?_
    refine xc_33 (i := 4) (q := 14) hS ly0 rfl (xc_P hS (by decide)) ?_
    refine xo_49 (st' := []) rfl rfl (xc_ly hS ly14) rfl (Nat.le_of_ble_eq_true rfl) ?_
    refine t_X2_push hS ?_
    refine jw_mono (jw_bind h) (fun q2 h => ?_)
    show jx_Ex _ _ _ _ [] (jh S q2.2) _
    refine xo_0 rfl ?_
    replace h := jw_some h
    exact xo_69 h
/-- OfDifferentMinds.mount, at ['x', 'int', 'int'] -/
def f_X10_mount (x1 : Int32) (x2 : Int32) (σ : jT) : Option (Int32 × jT) :=
  (f_X2_note_12 σ).bind fun q1 =>
  (f_X10_getOn x1 x2 q1.2).bind fun q2 =>
  (f_X10_noted q2.1 q2.2).bind fun q3 =>
  some (q3.1, q3.2)
theorem t_X10_mount {S : jS} (hS : jCok S) {d : Nat} {Q : Option Value → jx_H → Prop} {x1 : Int32} {x2 : Int32} {σ : jT} (h : jw (f_X10_mount x1 x2 σ) (fun q => Q (some (.int q.1)) (jh S q.2))) : jx_Sp (d + 5) 143 [.ref 0, .int x1, .int x2] (jh S σ) Q := by
  refine ⟨jm_i143, jm_at143, rfl, rfl, ?_⟩
  show jx_Ex _ jm_l143 jm_b143_0 [.ref 0, .int x1, .int x2] [] _ _
  unfold f_X10_mount at h
  refine xo_2 rfl ?_
  refine xc_33 (i := 4) (q := 14) hS ly0 rfl (xc_P hS (by decide)) ?_
  refine xo_2 rfl ?_
  refine xc_33 (i := 3) (q := 12) hS ly0 rfl (xc_P hS (by decide)) ?_
  refine xo_49 (st' := []) rfl rfl (xc_ly hS ly14) rfl (Nat.le_of_ble_eq_true rfl) ?_
  refine t_X2_note_12 hS ?_
  refine jw_mono (jw_bind h) (fun q1 h => ?_)
  show jx_Ex _ _ _ _ [] (jh S q1.2) _
  refine xo_2 rfl ?_
  refine xo_2 rfl ?_
  refine xo_0 rfl ?_
  refine xo_0 rfl ?_
  refine xo_49 (st' := [.ref 0]) rfl rfl (xc_ly hS ly0) rfl (Nat.le_of_ble_eq_true rfl) ?_
  refine t_X10_getOn hS ?_
  refine jw_mono (jw_bind h) (fun q2 h => ?_)
  show jx_Ex _ _ _ _ [.int q2.1, .ref 0] (jh S q2.2) _
  refine xo_49 (st' := []) rfl rfl (xc_ly hS ly0) rfl (Nat.le_of_ble_eq_true rfl) ?_
  refine t_X10_noted hS ?_
  refine jw_mono (jw_bind h) (fun q3 h => ?_)
  show jx_Ex _ _ _ _ [.int q3.1] (jh S q3.2) _
  replace h := jw_some h
  exact xo_69 h
/-- OfDifferentMinds.getOff, at ['x'] -/
def f_X10_getOff (σ : jT) : Option (Int32 × jT) :=
  (f_X8_isMounted σ).bind fun q1 =>
  if ¬ q1.1 = 0 then
    (f_X8_seat (-1) (-1) q1.2).bind fun q3 =>
    (f_X8_horse q3.2).bind fun q4 =>
    some (q4.1, q4.2)
  else
    some ((-2), q1.2)
theorem t_X10_getOff {S : jS} (hS : jCok S) {d : Nat} {Q : Option Value → jx_H → Prop} {σ : jT} (h : jw (f_X10_getOff σ) (fun q => Q (some (.int q.1)) (jh S q.2))) : jx_Sp (d + 1) 153 [.ref 0] (jh S σ) Q := by
  refine ⟨jm_i153, jm_at153, rfl, rfl, ?_⟩
  show jx_Ex _ jm_l153 jm_b153_0 [.ref 0] [] _ _
  unfold f_X10_getOff at h
  refine xo_2 rfl ?_
  refine xc_33 (i := 3) (q := 12) hS ly0 rfl (xc_P hS (by decide)) ?_
  refine xo_49 (st' := []) rfl rfl (xc_ly hS ly12) rfl (Nat.le_of_ble_eq_true rfl) ?_
  refine t_X8_isMounted hS ?_
  refine jw_mono (jw_bind h) (fun q1 h => ?_)
  show jx_Ex _ _ _ _ [.int q1.1] (jh S q1.2) _
  refine xo_56 (t := jm_b153_13) rfl (fun hc2 => ?_) (fun hc2 => ?_)
  · replace h := jw_pos hc2 h
    refine xo_2 rfl ?_
    refine xc_33 (i := 3) (q := 12) hS ly0 rfl (xc_P hS (by decide)) ?_
    refine xo_8 ?_
    refine xo_8 ?_
    refine xo_49 (st' := []) rfl rfl (xc_ly hS ly12) rfl (Nat.le_of_ble_eq_true rfl) ?_
    refine t_X8_seat hS ?_
    refine jw_mono (jw_bind h) (fun q3 h => ?_)
    show jx_Ex _ _ _ _ [] (jh S q3.2) _
    refine xo_2 rfl ?_
    refine xc_33 (i := 3) (q := 12) hS ly0 rfl (xc_P hS (by decide)) ?_
    refine xo_49 (st' := []) rfl rfl (xc_ly hS ly12) rfl (Nat.le_of_ble_eq_true rfl) ?_
    refine t_X8_horse hS ?_
    refine jw_mono (jw_bind h) (fun q4 h => ?_)
    show jx_Ex _ _ _ _ [.int q4.1] (jh S q4.2) _
    replace h := jw_some h
    exact xo_69 h
  · replace h := jw_neg hc2 h
    refine xo_9 ?_
    replace h := jw_some h
    exact xo_69 h
/-- OfDifferentMinds.dismount, at ['x'] -/
def f_X10_dismount (σ : jT) : Option (Int32 × jT) :=
  (f_X2_note_12 σ).bind fun q1 =>
  (f_X10_getOff q1.2).bind fun q2 =>
  (f_X10_noted q2.1 q2.2).bind fun q3 =>
  some (q3.1, q3.2)
theorem t_X10_dismount {S : jS} (hS : jCok S) {d : Nat} {Q : Option Value → jx_H → Prop} {σ : jT} (h : jw (f_X10_dismount σ) (fun q => Q (some (.int q.1)) (jh S q.2))) : jx_Sp (d + 2) 144 [.ref 0] (jh S σ) Q := by
  refine ⟨jm_i144, jm_at144, rfl, rfl, ?_⟩
  show jx_Ex _ jm_l144 jm_b144_0 [.ref 0] [] _ _
  unfold f_X10_dismount at h
  refine xo_2 rfl ?_
  refine xc_33 (i := 4) (q := 14) hS ly0 rfl (xc_P hS (by decide)) ?_
  refine xo_2 rfl ?_
  refine xc_33 (i := 3) (q := 12) hS ly0 rfl (xc_P hS (by decide)) ?_
  refine xo_49 (st' := []) rfl rfl (xc_ly hS ly14) rfl (Nat.le_of_ble_eq_true rfl) ?_
  refine t_X2_note_12 hS ?_
  refine jw_mono (jw_bind h) (fun q1 h => ?_)
  show jx_Ex _ _ _ _ [] (jh S q1.2) _
  refine xo_2 rfl ?_
  refine xo_2 rfl ?_
  refine xo_49 (st' := [.ref 0]) rfl rfl (xc_ly hS ly0) rfl (Nat.le_of_ble_eq_true rfl) ?_
  refine t_X10_getOff hS ?_
  refine jw_mono (jw_bind h) (fun q2 h => ?_)
  show jx_Ex _ _ _ _ [.int q2.1, .ref 0] (jh S q2.2) _
  refine xo_49 (st' := []) rfl rfl (xc_ly hS ly0) rfl (Nat.le_of_ble_eq_true rfl) ?_
  refine t_X10_noted hS ?_
  refine jw_mono (jw_bind h) (fun q3 h => ?_)
  show jx_Ex _ _ _ _ [.int q3.1] (jh S q3.2) _
  replace h := jw_some h
  exact xo_69 h
/-- Standing.first, at ['x.now'] -/
def f_X8_first (σ : jT) : Option (Int32 × jT) :=
  some ((σ.2 13 25), σ)
theorem t_X8_first {S : jS} (hS : jCok S) {d : Nat} {Q : Option Value → jx_H → Prop} {σ : jT} (h : jw (f_X8_first σ) (fun q => Q (some (.int q.1)) (jh S q.2))) : jx_Sp (d) 105 [.ref 12] (jh S σ) Q := by
  refine ⟨jm_i105, jm_at105, rfl, rfl, ?_⟩
  show jx_Ex _ jm_l105 jm_b105_0 [.ref 12] [] _ _
  unfold f_X8_first at h
  refine xo_2 rfl ?_
  refine xc_33 (i := 768) (q := 13) hS ly12 rfl (xc_P hS (by decide)) ?_
  refine xo_9 ?_
  refine xc_38 (j := 25) (v := (σ.2 13 25)) hS ly13 ⟨Nat.le_of_ble_eq_true rfl, Nat.le_of_ble_eq_true rfl⟩ (by decide) (by decide) rfl ?_
  replace h := jw_some h
  exact xo_69 h
/-- Standing.second, at ['x.now'] -/
def f_X8_second (σ : jT) : Option (Int32 × jT) :=
  some ((σ.2 13 26), σ)
theorem t_X8_second {S : jS} (hS : jCok S) {d : Nat} {Q : Option Value → jx_H → Prop} {σ : jT} (h : jw (f_X8_second σ) (fun q => Q (some (.int q.1)) (jh S q.2))) : jx_Sp (d) 106 [.ref 12] (jh S σ) Q := by
  refine ⟨jm_i106, jm_at106, rfl, rfl, ?_⟩
  show jx_Ex _ jm_l106 jm_b106_0 [.ref 12] [] _ _
  unfold f_X8_second at h
  refine xo_2 rfl ?_
  refine xc_33 (i := 768) (q := 13) hS ly12 rfl (xc_P hS (by decide)) ?_
  refine xo_9 ?_
  refine xc_38 (j := 26) (v := (σ.2 13 26)) hS ly13 ⟨Nat.le_of_ble_eq_true rfl, Nat.le_of_ble_eq_true rfl⟩ (by decide) (by decide) rfl ?_
  replace h := jw_some h
  exact xo_69 h
/-- Ride.beginFresh, at ['x.trial', 'int', 'int', 'int'] -/
def f_X5_beginFresh_b17 : Nat → Int32 → Int32 → jT → Option (Int32 × jT)
  | 0, _, _, _ => none
  | n + 1, x3, x4, σ =>
    if 2 ≤ x4 then
      some (0, (gs (gs (gs (gs (gs σ 3144 x3) 3145 0) 3146 0) 3147 (-1)) 3148 0))
    else
      if jx_in x4 2 then
      (f_X3_mindOf (σ.2 50 x4.toNatClampNeg) σ).bind fun q3 =>
      (f_X8_mapOf (q3.2.2 50 x4.toNatClampNeg) (gA (gA q3.2 51 x4.toNatClampNeg q3.1) 52 x4.toNatClampNeg (-1))).bind fun q4 =>
      f_X5_beginFresh_b17 n x3 (x4 + 1) (gA (gA q4.2 53 x4.toNatClampNeg q4.1) 54 x4.toNatClampNeg q4.1)
      else none
def f_X5_beginFresh (x1 : Int32) (x2 : Int32) (x3 : Int32) (σ : jT) : Option (Int32 × jT) :=
  f_X5_beginFresh_b17 1000 x3 0 (gA (gA σ 50 0 x1) 50 1 x2)
theorem t_X5_beginFresh_b17 {S : jS} (hS : jCok S) {d : Nat} {Q : Option Value → jx_H → Prop} : ∀ (n : Nat) {x3 : Int32} {x4 : Int32} {w1 : Value} {w2 : Value} {σ : jT}, jw (f_X5_beginFresh_b17 n x3 x4 σ) (fun q => Q none (jh S q.2)) → jx_Ex (d + 2) jm_l49 jm_b49_17 [.ref 49, w1, w2, .int x3, .int x4] [] (jh S σ) Q := by
  intro n
  induction n with
  | zero => intro x3 x4 w1 w2 σ h; exact jw_none h
  | succ n ih =>
    intro x3 x4 w1 w2 σ h
    rw [f_X5_beginFresh_b17] at h
    refine xo_1 rfl ?_
    refine xo_8 ?_
    refine xo_64 (t := jm_b49_93) rfl (fun hc1 => ?_) (fun hc1 => ?_)
    · replace h := jw_pos hc1 h
      refine xo_2 rfl ?_
      refine xo_0 rfl ?_
      refine xc_34 (i := 3144) hS ly49 rfl ⟨Nat.le_of_ble_eq_true rfl, Nat.le_of_ble_eq_true rfl⟩ ?_
      refine xo_2 rfl ?_
      refine xo_8 ?_
      refine xc_34 (i := 3145) hS ly49 rfl ⟨Nat.le_of_ble_eq_true rfl, Nat.le_of_ble_eq_true rfl⟩ ?_
      refine xo_2 rfl ?_
      refine xo_8 ?_
      refine xc_34 (i := 3146) hS ly49 rfl ⟨Nat.le_of_ble_eq_true rfl, Nat.le_of_ble_eq_true rfl⟩ ?_
      refine xo_2 rfl ?_
      refine xo_8 ?_
      refine xc_34 (i := 3147) hS ly49 rfl ⟨Nat.le_of_ble_eq_true rfl, Nat.le_of_ble_eq_true rfl⟩ ?_
      refine xo_2 rfl ?_
      refine xo_8 ?_
      refine xc_35 (i := 3148) hS ly49 rfl ⟨Nat.le_of_ble_eq_true rfl, Nat.le_of_ble_eq_true rfl⟩ (by decide) ?_
      replace h := jw_some h
      exact xo_71 h
    · replace h := jw_neg hc1 h
      refine xo_2 rfl ?_
      refine xc_33 (i := 3140) (q := 51) hS ly49 rfl (xc_P hS (by decide)) ?_
      refine xo_1 rfl ?_
      refine xo_2 rfl ?_
      refine xc_33 (i := 3136) (q := 3) hS ly49 rfl (xc_P hS (by decide)) ?_
      refine xo_2 rfl ?_
      refine xc_33 (i := 3139) (q := 50) hS ly49 rfl (xc_P hS (by decide)) ?_
      refine xo_1 rfl ?_
      obtain ⟨hi2, h⟩ := jw_chk h
      refine xc_38 (j := x4.toNatClampNeg) (v := (σ.2 50 x4.toNatClampNeg)) hS ly50 ⟨Nat.le_of_ble_eq_true rfl, Nat.le_of_ble_eq_true rfl⟩ hi2 rfl rfl ?_
      refine xo_49 (st' := [.int x4, .ref 51]) rfl rfl (xc_ly hS ly3) rfl (Nat.le_of_ble_eq_true rfl) ?_
      refine t_X3_mindOf hS ?_
      refine jw_mono (jw_bind h) (fun q3 h => ?_)
      show jx_Ex _ _ _ _ [.int q3.1, .int x4, .ref 51] (jh S q3.2) _
      refine xc_41 (j := x4.toNatClampNeg) hS ly51 ⟨Nat.le_of_ble_eq_true rfl, Nat.le_of_ble_eq_true rfl⟩ hi2 rfl ?_
      refine xo_2 rfl ?_
      refine xc_33 (i := 3141) (q := 52) hS ly49 rfl (xc_P hS (by decide)) ?_
      refine xo_1 rfl ?_
      refine xo_8 ?_
      refine xc_41 (j := x4.toNatClampNeg) hS ly52 ⟨Nat.le_of_ble_eq_true rfl, Nat.le_of_ble_eq_true rfl⟩ hi2 rfl ?_
      refine xo_2 rfl ?_
      refine xc_33 (i := 3142) (q := 53) hS ly49 rfl (xc_P hS (by decide)) ?_
      refine xo_1 rfl ?_
      refine xo_2 rfl ?_
      refine xc_33 (i := 3138) (q := 12) hS ly49 rfl (xc_P hS (by decide)) ?_
      refine xo_2 rfl ?_
      refine xc_33 (i := 3139) (q := 50) hS ly49 rfl (xc_P hS (by decide)) ?_
      refine xo_1 rfl ?_
      refine xc_38 (j := x4.toNatClampNeg) (v := (q3.2.2 50 x4.toNatClampNeg)) hS ly50 ⟨Nat.le_of_ble_eq_true rfl, Nat.le_of_ble_eq_true rfl⟩ hi2 rfl rfl ?_
      refine xo_49 (st' := [.int x4, .ref 53]) rfl rfl (xc_ly hS ly12) rfl (Nat.le_of_ble_eq_true rfl) ?_
      refine t_X8_mapOf hS ?_
      refine jw_mono (jw_bind h) (fun q4 h => ?_)
      show jx_Ex _ _ _ _ [.int q4.1, .int x4, .ref 53] (jh S q4.2) _
      refine xc_41 (j := x4.toNatClampNeg) hS ly53 ⟨Nat.le_of_ble_eq_true rfl, Nat.le_of_ble_eq_true rfl⟩ hi2 rfl ?_
      refine xo_2 rfl ?_
      refine xc_33 (i := 3143) (q := 54) hS ly49 rfl (xc_P hS (by decide)) ?_
      refine xo_1 rfl ?_
      refine xo_2 rfl ?_
      refine xc_33 (i := 3142) (q := 53) hS ly49 rfl (xc_P hS (by decide)) ?_
      refine xo_1 rfl ?_
      refine xc_38 (j := x4.toNatClampNeg) (v := q4.1) hS ly53 ⟨Nat.le_of_ble_eq_true rfl, Nat.le_of_ble_eq_true rfl⟩ hi2 rfl (by simp [gA, gs, jx_up2, jx_up]) ?_
      refine xc_41 (j := x4.toNatClampNeg) hS ly54 ⟨Nat.le_of_ble_eq_true rfl, Nat.le_of_ble_eq_true rfl⟩ hi2 rfl ?_
      refine xo_13 (ls' := [.ref 49, w1, w2, .int x3, .int (x4 + 1)]) rfl rfl ?_
      refine xo_54 (t := jm_b49_17) rfl ?_
      exact ih h
theorem t_X5_beginFresh {S : jS} (hS : jCok S) {d : Nat} {Q : Option Value → jx_H → Prop} {x1 : Int32} {x2 : Int32} {x3 : Int32} {σ : jT} (h : jw (f_X5_beginFresh x1 x2 x3 σ) (fun q => Q none (jh S q.2))) : jx_Sp (d + 2) 49 [.ref 49, .int x1, .int x2, .int x3] (jh S σ) Q := by
  refine ⟨jm_i49, jm_at49, rfl, rfl, ?_⟩
  show jx_Ex _ jm_l49 jm_b49_0 [.ref 49, .int x1, .int x2, .int x3, .retAddr 0] [] _ _
  unfold f_X5_beginFresh at h
  refine xo_2 rfl ?_
  refine xc_33 (i := 3139) (q := 50) hS ly49 rfl (xc_P hS (by decide)) ?_
  refine xo_8 ?_
  refine xo_0 rfl ?_
  refine xc_41 (j := 0) hS ly50 ⟨Nat.le_of_ble_eq_true rfl, Nat.le_of_ble_eq_true rfl⟩ (by decide) (by decide) ?_
  refine xo_2 rfl ?_
  refine xc_33 (i := 3139) (q := 50) hS ly49 rfl (xc_P hS (by decide)) ?_
  refine xo_8 ?_
  refine xo_0 rfl ?_
  refine xc_41 (j := 1) hS ly50 ⟨Nat.le_of_ble_eq_true rfl, Nat.le_of_ble_eq_true rfl⟩ (by decide) (by decide) ?_
  refine xo_8 ?_
  refine xo_5 (ls' := [.ref 49, .int x1, .int x2, .int x3, .int 0]) rfl ?_
  exact t_X5_beginFresh_b17 hS 1000 h
/-- Ride.begin, at ['x.trial', 'int', 'int', 'int'] -/
def f_X5_begin_b10 : Nat → Int32 → jT → Option (Int32 × jT)
  | 0, _, _ => none
  | n + 1, x4, σ =>
    if 2 ≤ x4 then
      some (0, σ)
    else
      if jx_in x4 2 then
      (f_X3_mindOf (σ.2 50 x4.toNatClampNeg) σ).bind fun q3 =>
      (f_X8_spentOf (q3.2.2 50 x4.toNatClampNeg) q3.2).bind fun q4 =>
      (f_X8_convincerOf (q4.2.2 50 x4.toNatClampNeg) (gA q4.2 51 x4.toNatClampNeg (q3.1 - q4.1))).bind fun q5 =>
      (f_X8_guidingMap (q5.2.2 50 x4.toNatClampNeg) (gA q5.2 52 x4.toNatClampNeg q5.1)).bind fun q6 =>
      f_X5_begin_b10 n (x4 + 1) (gA q6.2 54 x4.toNatClampNeg q6.1)
      else none
def f_X5_begin (x1 : Int32) (x2 : Int32) (x3 : Int32) (σ : jT) : Option (Int32 × jT) :=
  (f_X5_beginFresh x1 x2 x3 σ).bind fun q1 =>
  f_X5_begin_b10 1000 0 q1.2
theorem t_X5_begin_b10 {S : jS} (hS : jCok S) {d : Nat} {Q : Option Value → jx_H → Prop} : ∀ (n : Nat) {x4 : Int32} {w1 : Value} {w2 : Value} {w3 : Value} {σ : jT}, jw (f_X5_begin_b10 n x4 σ) (fun q => Q none (jh S q.2)) → jx_Ex (d + 3) jm_l50 jm_b50_10 [.ref 49, w1, w2, w3, .int x4] [] (jh S σ) Q := by
  intro n
  induction n with
  | zero => intro x4 w1 w2 w3 σ h; exact jw_none h
  | succ n ih =>
    intro x4 w1 w2 w3 σ h
    rw [f_X5_begin_b10] at h
    refine xo_1 rfl ?_
    refine xo_8 ?_
    refine xo_64 (t := jm_b50_100) rfl (fun hc1 => ?_) (fun hc1 => ?_)
    · replace h := jw_pos hc1 h
      replace h := jw_some h
      exact xo_71 h
    · replace h := jw_neg hc1 h
      refine xo_2 rfl ?_
      refine xc_33 (i := 3140) (q := 51) hS ly49 rfl (xc_P hS (by decide)) ?_
      refine xo_1 rfl ?_
      refine xo_2 rfl ?_
      refine xc_33 (i := 3136) (q := 3) hS ly49 rfl (xc_P hS (by decide)) ?_
      refine xo_2 rfl ?_
      refine xc_33 (i := 3139) (q := 50) hS ly49 rfl (xc_P hS (by decide)) ?_
      refine xo_1 rfl ?_
      obtain ⟨hi2, h⟩ := jw_chk h
      refine xc_38 (j := x4.toNatClampNeg) (v := (σ.2 50 x4.toNatClampNeg)) hS ly50 ⟨Nat.le_of_ble_eq_true rfl, Nat.le_of_ble_eq_true rfl⟩ hi2 rfl rfl ?_
      refine xo_49 (st' := [.int x4, .ref 51]) rfl rfl (xc_ly hS ly3) rfl (Nat.le_of_ble_eq_true rfl) ?_
      refine t_X3_mindOf hS ?_
      refine jw_mono (jw_bind h) (fun q3 h => ?_)
      show jx_Ex _ _ _ _ [.int q3.1, .int x4, .ref 51] (jh S q3.2) _
      refine xo_2 rfl ?_
      refine xc_33 (i := 3138) (q := 12) hS ly49 rfl (xc_P hS (by decide)) ?_
      refine xo_2 rfl ?_
      refine xc_33 (i := 3139) (q := 50) hS ly49 rfl (xc_P hS (by decide)) ?_
      refine xo_1 rfl ?_
      refine xc_38 (j := x4.toNatClampNeg) (v := (q3.2.2 50 x4.toNatClampNeg)) hS ly50 ⟨Nat.le_of_ble_eq_true rfl, Nat.le_of_ble_eq_true rfl⟩ hi2 rfl rfl ?_
      refine xo_49 (st' := [.int q3.1, .int x4, .ref 51]) rfl rfl (xc_ly hS ly12) rfl (Nat.le_of_ble_eq_true rfl) ?_
      refine t_X8_spentOf hS ?_
      refine jw_mono (jw_bind h) (fun q4 h => ?_)
      show jx_Ex _ _ _ _ [.int q4.1, .int q3.1, .int x4, .ref 51] (jh S q4.2) _
      refine xo_15 ?_
      refine xc_41 (j := x4.toNatClampNeg) hS ly51 ⟨Nat.le_of_ble_eq_true rfl, Nat.le_of_ble_eq_true rfl⟩ hi2 rfl ?_
      refine xo_2 rfl ?_
      refine xc_33 (i := 3141) (q := 52) hS ly49 rfl (xc_P hS (by decide)) ?_
      refine xo_1 rfl ?_
      refine xo_2 rfl ?_
      refine xc_33 (i := 3138) (q := 12) hS ly49 rfl (xc_P hS (by decide)) ?_
      refine xo_2 rfl ?_
      refine xc_33 (i := 3139) (q := 50) hS ly49 rfl (xc_P hS (by decide)) ?_
      refine xo_1 rfl ?_
      refine xc_38 (j := x4.toNatClampNeg) (v := (q4.2.2 50 x4.toNatClampNeg)) hS ly50 ⟨Nat.le_of_ble_eq_true rfl, Nat.le_of_ble_eq_true rfl⟩ hi2 rfl rfl ?_
      refine xo_49 (st' := [.int x4, .ref 52]) rfl rfl (xc_ly hS ly12) rfl (Nat.le_of_ble_eq_true rfl) ?_
      refine t_X8_convincerOf hS ?_
      refine jw_mono (jw_bind h) (fun q5 h => ?_)
      show jx_Ex _ _ _ _ [.int q5.1, .int x4, .ref 52] (jh S q5.2) _
      refine xc_41 (j := x4.toNatClampNeg) hS ly52 ⟨Nat.le_of_ble_eq_true rfl, Nat.le_of_ble_eq_true rfl⟩ hi2 rfl ?_
      refine xo_2 rfl ?_
      refine xc_33 (i := 3143) (q := 54) hS ly49 rfl (xc_P hS (by decide)) ?_
      refine xo_1 rfl ?_
      refine xo_2 rfl ?_
      refine xc_33 (i := 3138) (q := 12) hS ly49 rfl (xc_P hS (by decide)) ?_
      refine xo_2 rfl ?_
      refine xc_33 (i := 3139) (q := 50) hS ly49 rfl (xc_P hS (by decide)) ?_
      refine xo_1 rfl ?_
      refine xc_38 (j := x4.toNatClampNeg) (v := (q5.2.2 50 x4.toNatClampNeg)) hS ly50 ⟨Nat.le_of_ble_eq_true rfl, Nat.le_of_ble_eq_true rfl⟩ hi2 rfl rfl ?_
      refine xo_49 (st' := [.int x4, .ref 54]) rfl rfl (xc_ly hS ly12) rfl (Nat.le_of_ble_eq_true rfl) ?_
      refine t_X8_guidingMap hS ?_
      refine jw_mono (jw_bind h) (fun q6 h => ?_)
      show jx_Ex _ _ _ _ [.int q6.1, .int x4, .ref 54] (jh S q6.2) _
      refine xc_41 (j := x4.toNatClampNeg) hS ly54 ⟨Nat.le_of_ble_eq_true rfl, Nat.le_of_ble_eq_true rfl⟩ hi2 rfl ?_
      refine xo_13 (ls' := [.ref 49, w1, w2, w3, .int (x4 + 1)]) rfl rfl ?_
      refine xo_54 (t := jm_b50_10) rfl ?_
      exact ih h
theorem t_X5_begin {S : jS} (hS : jCok S) {d : Nat} {Q : Option Value → jx_H → Prop} {x1 : Int32} {x2 : Int32} {x3 : Int32} {σ : jT} (h : jw (f_X5_begin x1 x2 x3 σ) (fun q => Q none (jh S q.2))) : jx_Sp (d + 3) 50 [.ref 49, .int x1, .int x2, .int x3] (jh S σ) Q := by
  refine ⟨jm_i50, jm_at50, rfl, rfl, ?_⟩
  show jx_Ex _ jm_l50 jm_b50_0 [.ref 49, .int x1, .int x2, .int x3, .retAddr 0] [] _ _
  unfold f_X5_begin at h
  refine xo_2 rfl ?_
  refine xo_0 rfl ?_
  refine xo_0 rfl ?_
  refine xo_0 rfl ?_
  refine xo_49 (st' := []) rfl rfl (xc_ly hS ly49) rfl (Nat.le_of_ble_eq_true rfl) ?_
  refine t_X5_beginFresh hS ?_
  refine jw_mono (jw_bind h) (fun q1 h => ?_)
  show jx_Ex _ _ _ _ [] (jh S q1.2) _
  refine xo_8 ?_
  refine xo_5 (ls' := [.ref 49, .int x1, .int x2, .int x3, .int 0]) rfl ?_
  exact t_X5_begin_b10 hS 1000 h
/-- Standing.steps, at ['x.now'] -/
def f_X8_steps (σ : jT) : Option (Int32 × jT) :=
  some ((σ.2 13 27), σ)
theorem t_X8_steps {S : jS} (hS : jCok S) {d : Nat} {Q : Option Value → jx_H → Prop} {σ : jT} (h : jw (f_X8_steps σ) (fun q => Q (some (.int q.1)) (jh S q.2))) : jx_Sp (d) 107 [.ref 12] (jh S σ) Q := by
  refine ⟨jm_i107, jm_at107, rfl, rfl, ?_⟩
  show jx_Ex _ jm_l107 jm_b107_0 [.ref 12] [] _ _
  unfold f_X8_steps at h
  refine xo_2 rfl ?_
  refine xc_33 (i := 768) (q := 13) hS ly12 rfl (xc_P hS (by decide)) ?_
  refine xo_9 ?_
  refine xc_38 (j := 27) (v := (σ.2 13 27)) hS ly13 ⟨Nat.le_of_ble_eq_true rfl, Nat.le_of_ble_eq_true rfl⟩ (by decide) (by decide) rfl ?_
  replace h := jw_some h
  exact xo_69 h
/-- Ride.resume, at ['x.trial'] -/
def f_X5_resume (σ : jT) : Option (Int32 × jT) :=
  (f_X8_first σ).bind fun q1 =>
  (f_X8_second q1.2).bind fun q2 =>
  (f_X8_horse q2.2).bind fun q3 =>
  (f_X5_begin q1.1 q2.1 q3.1 q3.2).bind fun q4 =>
  (f_X8_steps q4.2).bind fun q5 =>
  some (0, (gs q5.2 3145 q5.1))
theorem t_X5_resume {S : jS} (hS : jCok S) {d : Nat} {Q : Option Value → jx_H → Prop} {σ : jT} (h : jw (f_X5_resume σ) (fun q => Q none (jh S q.2))) : jx_Sp (d + 4) 51 [.ref 49] (jh S σ) Q := by
  refine ⟨jm_i51, jm_at51, rfl, rfl, ?_⟩
  show jx_Ex _ jm_l51 jm_b51_0 [.ref 49] [] _ _
  unfold f_X5_resume at h
  refine xo_2 rfl ?_
  refine xo_2 rfl ?_
  refine xc_33 (i := 3138) (q := 12) hS ly49 rfl (xc_P hS (by decide)) ?_
  refine xo_49 (st' := [.ref 49]) rfl rfl (xc_ly hS ly12) rfl (Nat.le_of_ble_eq_true rfl) ?_
  refine t_X8_first hS ?_
  refine jw_mono (jw_bind h) (fun q1 h => ?_)
  show jx_Ex _ _ _ _ [.int q1.1, .ref 49] (jh S q1.2) _
  refine xo_2 rfl ?_
  refine xc_33 (i := 3138) (q := 12) hS ly49 rfl (xc_P hS (by decide)) ?_
  refine xo_49 (st' := [.int q1.1, .ref 49]) rfl rfl (xc_ly hS ly12) rfl (Nat.le_of_ble_eq_true rfl) ?_
  refine t_X8_second hS ?_
  refine jw_mono (jw_bind h) (fun q2 h => ?_)
  show jx_Ex _ _ _ _ [.int q2.1, .int q1.1, .ref 49] (jh S q2.2) _
  refine xo_2 rfl ?_
  refine xc_33 (i := 3138) (q := 12) hS ly49 rfl (xc_P hS (by decide)) ?_
  refine xo_49 (st' := [.int q2.1, .int q1.1, .ref 49]) rfl rfl (xc_ly hS ly12) rfl (Nat.le_of_ble_eq_true rfl) ?_
  refine t_X8_horse hS ?_
  refine jw_mono (jw_bind h) (fun q3 h => ?_)
  show jx_Ex _ _ _ _ [.int q3.1, .int q2.1, .int q1.1, .ref 49] (jh S q3.2) _
  refine xo_49 (st' := []) rfl rfl (xc_ly hS ly49) rfl (Nat.le_of_ble_eq_true rfl) ?_
  refine t_X5_begin hS ?_
  refine jw_mono (jw_bind h) (fun q4 h => ?_)
  show jx_Ex _ _ _ _ [] (jh S q4.2) _
  refine xo_2 rfl ?_
  refine xo_2 rfl ?_
  refine xc_33 (i := 3138) (q := 12) hS ly49 rfl (xc_P hS (by decide)) ?_
  refine xo_49 (st' := [.ref 49]) rfl rfl (xc_ly hS ly12) rfl (Nat.le_of_ble_eq_true rfl) ?_
  refine t_X8_steps hS ?_
  refine jw_mono (jw_bind h) (fun q5 h => ?_)
  show jx_Ex _ _ _ _ [.int q5.1, .ref 49] (jh S q5.2) _
  refine xc_34 (i := 3145) hS ly49 rfl ⟨Nat.le_of_ble_eq_true rfl, Nat.le_of_ble_eq_true rfl⟩ ?_
  replace h := jw_some h
  exact xo_71 h
/-- Rule.setFacts, at ['x.rule', 'int', 'int', 'int', 'int', 'int'] -/
def f_X7_setFacts (x1 : Int32) (x2 : Int32) (x3 : Int32) (x4 : Int32) (x5 : Int32) (σ : jT) : Option (Int32 × jT) :=
  some (0, (gA (gA (gA (gA (gA σ 11 2 x1) 11 3 x2) 11 4 x3) 11 5 x4) 11 6 x5))
theorem t_X7_setFacts {S : jS} (hS : jCok S) {d : Nat} {Q : Option Value → jx_H → Prop} {x1 : Int32} {x2 : Int32} {x3 : Int32} {x4 : Int32} {x5 : Int32} {σ : jT} (h : jw (f_X7_setFacts x1 x2 x3 x4 x5 σ) (fun q => Q none (jh S q.2))) : jx_Sp (d) 76 [.ref 7, .int x1, .int x2, .int x3, .int x4, .int x5] (jh S σ) Q := by
  refine ⟨jm_i76, jm_at76, rfl, rfl, ?_⟩
  show jx_Ex _ jm_l76 jm_b76_0 [.ref 7, .int x1, .int x2, .int x3, .int x4, .int x5] [] _ _
  unfold f_X7_setFacts at h
  refine xo_2 rfl ?_
  refine xc_33 (i := 451) (q := 11) hS ly7 rfl (xc_P hS (by decide)) ?_
  refine xo_8 ?_
  refine xo_0 rfl ?_
  refine xc_41 (j := 2) hS ly11 ⟨Nat.le_of_ble_eq_true rfl, Nat.le_of_ble_eq_true rfl⟩ (by decide) (by decide) ?_
  refine xo_2 rfl ?_
  refine xc_33 (i := 451) (q := 11) hS ly7 rfl (xc_P hS (by decide)) ?_
  refine xo_8 ?_
  refine xo_0 rfl ?_
  refine xc_41 (j := 3) hS ly11 ⟨Nat.le_of_ble_eq_true rfl, Nat.le_of_ble_eq_true rfl⟩ (by decide) (by decide) ?_
  refine xo_2 rfl ?_
  refine xc_33 (i := 451) (q := 11) hS ly7 rfl (xc_P hS (by decide)) ?_
  refine xo_8 ?_
  refine xo_0 rfl ?_
  refine xc_41 (j := 4) hS ly11 ⟨Nat.le_of_ble_eq_true rfl, Nat.le_of_ble_eq_true rfl⟩ (by decide) (by decide) ?_
  refine xo_2 rfl ?_
  refine xc_33 (i := 451) (q := 11) hS ly7 rfl (xc_P hS (by decide)) ?_
  refine xo_8 ?_
  refine xo_1 rfl ?_
  refine xc_41 (j := 5) hS ly11 ⟨Nat.le_of_ble_eq_true rfl, Nat.le_of_ble_eq_true rfl⟩ (by decide) (by decide) ?_
  refine xo_2 rfl ?_
  refine xc_33 (i := 451) (q := 11) hS ly7 rfl (xc_P hS (by decide)) ?_
  refine xo_9 ?_
  refine xo_1 rfl ?_
  refine xc_41 (j := 6) hS ly11 ⟨Nat.le_of_ble_eq_true rfl, Nat.le_of_ble_eq_true rfl⟩ (by decide) (by decide) ?_
  replace h := jw_some h
  exact xo_71 h
/-- Rule.joined, at ['int', 'int', 'int'] -/
def f_X7_joined (x0 : Int32) (x1 : Int32) (x2 : Int32) (σ : jT) : Option (Int32 × jT) :=
  if x0 = 42 then
    some ((x1 * x2), σ)
  else
  if x0 = 43 then
    some ((x1 + x2), σ)
  else
  if x0 = 45 then
    some ((x1 - x2), σ)
  else
  if x0 = 60 then
    if x2 ≤ x1 then
      some (0, σ)
    else
      some (1, σ)
  else
  if x0 = 61 then
    if ¬ x1 = x2 then
      some (0, σ)
    else
      some (1, σ)
  else
  if x0 = 62 then
    if x1 ≤ x2 then
      some (0, σ)
    else
      some (1, σ)
  else
  if ¬ x2 = 0 then
    if x2 = 0 then none else
    some ((x1 / x2), σ)
  else
    some (0, σ)
theorem t_X7_joined {S : jS} (hS : jCok S) {d : Nat} {Q : Option Value → jx_H → Prop} {x0 : Int32} {x1 : Int32} {x2 : Int32} {σ : jT} (h : jw (f_X7_joined x0 x1 x2 σ) (fun q => Q (some (.int q.1)) (jh S q.2))) : jx_Sp (d) 78 [.int x0, .int x1, .int x2] (jh S σ) Q := by
  refine ⟨jm_i78, jm_at78, rfl, rfl, ?_⟩
  show jx_Ex _ jm_l78 jm_b78_0 [.int x0, .int x1, .int x2] [] _ _
  unfold f_X7_joined at h
  refine xo_0 rfl ?_
  refine xo_68 ?_
  refine xo_swc (tb := jm_b78_101) rfl (fun hc1 => ?_) (fun hc1 => ?_)
  · replace h := jw_pos hc1 h
    refine xo_0 rfl ?_
    refine xo_0 rfl ?_
    refine xo_16 ?_
    replace h := jw_some h
    exact xo_69 h
  replace h := jw_neg hc1 h
  refine xo_swc (tb := jm_b78_93) rfl (fun hc2 => ?_) (fun hc2 => ?_)
  · replace h := jw_pos hc2 h
    refine xo_0 rfl ?_
    refine xo_0 rfl ?_
    refine xo_14 ?_
    replace h := jw_some h
    exact xo_69 h
  replace h := jw_neg hc2 h
  refine xo_swc (tb := jm_b78_97) rfl (fun hc3 => ?_) (fun hc3 => ?_)
  · replace h := jw_pos hc3 h
    refine xo_0 rfl ?_
    refine xo_0 rfl ?_
    refine xo_15 ?_
    replace h := jw_some h
    exact xo_69 h
  replace h := jw_neg hc3 h
  refine xo_swc (tb := jm_b78_60) rfl (fun hc4 => ?_) (fun hc4 => ?_)
  · replace h := jw_pos hc4 h
    refine xo_0 rfl ?_
    refine xo_0 rfl ?_
    refine xo_64 (t := jm_b78_69) rfl (fun hc5 => ?_) (fun hc5 => ?_)
    · replace h := jw_pos hc5 h
      refine xo_8 ?_
      replace h := jw_some h
      exact xo_69 h
    · replace h := jw_neg hc5 h
      refine xo_8 ?_
      refine xo_54 (t := jm_b78_70) rfl ?_
      replace h := jw_some h
      exact xo_69 h
  replace h := jw_neg hc4 h
  refine xo_swc (tb := jm_b78_82) rfl (fun hc6 => ?_) (fun hc6 => ?_)
  · replace h := jw_pos hc6 h
    refine xo_0 rfl ?_
    refine xo_0 rfl ?_
    refine xo_62 (t := jm_b78_91) rfl (fun hc7 => ?_) (fun hc7 => ?_)
    · replace h := jw_pos hc7 h
      refine xo_8 ?_
      replace h := jw_some h
      exact xo_69 h
    · replace h := jw_neg hc7 h
      refine xo_8 ?_
      refine xo_54 (t := jm_b78_92) rfl ?_
      replace h := jw_some h
      exact xo_69 h
  replace h := jw_neg hc6 h
  refine xo_swc (tb := jm_b78_71) rfl (fun hc8 => ?_) (fun hc8 => ?_)
  · replace h := jw_pos hc8 h
    refine xo_0 rfl ?_
    refine xo_0 rfl ?_
    refine xo_66 (t := jm_b78_80) rfl (fun hc9 => ?_) (fun hc9 => ?_)
    · replace h := jw_pos hc9 h
      refine xo_8 ?_
      replace h := jw_some h
      exact xo_69 h
    · replace h := jw_neg hc9 h
      refine xo_8 ?_
      refine xo_54 (t := jm_b78_81) rfl ?_
      replace h := jw_some h
      exact xo_69 h
  replace h := jw_neg hc8 h
  refine xo_swn (tb := jm_b78_105) rfl ?_
  refine xo_0 rfl ?_
  refine xo_56 (t := jm_b78_113) rfl (fun hc10 => ?_) (fun hc10 => ?_)
  · replace h := jw_pos hc10 h
    refine xo_0 rfl ?_
    refine xo_0 rfl ?_
    obtain ⟨hy11, h⟩ := jw_chn h
    refine xo_17 hy11 ?_
    replace h := jw_some h
    exact xo_69 h
  · replace h := jw_neg hc10 h
    refine xo_8 ?_
    refine xo_54 (t := jm_b78_116) rfl ?_
    replace h := jw_some h
    exact xo_69 h
/-- Rule.tells, at ['x.rule', 'int', 'int'] -/
def f_X7_tells_b215 (k56 : Int32 → Int32 → Int32 → jT → Option (Int32 × jT)) (x3 : Int32) (x4 : Int32) (x5 : Int32) (σ : jT) : Option (Int32 × jT) :=
  k56 x3 x4 (x5 + 1) σ
def f_X7_tells_b164 (k56 : Int32 → Int32 → Int32 → jT → Option (Int32 × jT)) (x3 : Int32) (x4 : Int32) (x5 : Int32) (x6 : Int32) (σ : jT) : Option (Int32 × jT) :=
  if x6 ≤ 2000 then
    f_X7_tells_b215 k56 x3 x4 x5 σ
  else
    if x4 ≤ 1 then
      f_X7_tells_b215 k56 x3 x4 x5 σ
    else
      if jx_in ((x4 + (-1)) - 1) 40 then
      if jx_in (x4 + (-1)) 40 then
      (f_X7_joined (x6 - 3000) (σ.2 10 ((x4 + (-1)) - 1).toNatClampNeg) (σ.2 10 (x4 + (-1)).toNatClampNeg) σ).bind fun q5 =>
      f_X7_tells_b215 k56 x3 (x4 + (-1)) x5 (gA q5.2 10 ((x4 + (-1)) - 1).toNatClampNeg q5.1)
      else none
      else none
def f_X7_tells_b129 (k56 : Int32 → Int32 → Int32 → jT → Option (Int32 × jT)) (x3 : Int32) (x4 : Int32) (x5 : Int32) (x6 : Int32) (σ : jT) : Option (Int32 × jT) :=
  if ¬ x6 = 2000 then
    f_X7_tells_b164 k56 x3 x4 x5 x6 σ
  else
    if x4 ≤ 0 then
      f_X7_tells_b164 k56 x3 x4 x5 x6 σ
    else
      if jx_in (x4 - 1) 40 then
      f_X7_tells_b215 k56 x3 x4 x5 (gA σ 10 (x4 - 1).toNatClampNeg (-(σ.2 10 (x4 - 1).toNatClampNeg)))
      else none
def f_X7_tells_b122 (k56 : Int32 → Int32 → Int32 → jT → Option (Int32 × jT)) (x3 : Int32) (x4 : Int32) (x5 : Int32) (s0 : Int32) (s1 : Int32) (σ : jT) : Option (Int32 × jT) :=
  if jx_in s1 40 then
  f_X7_tells_b215 k56 x3 (x4 + 1) x5 (gA σ 10 s1.toNatClampNeg s0)
  else none
def f_X7_tells_b56 : Nat → Int32 → Int32 → Int32 → jT → Option (Int32 × jT)
  | 0, _, _, _, _ => none
  | n + 1, x3, x4, x5, σ =>
    if (σ.1 452) ≤ x5 then
      if x3 = 0 then none else
      if 0 ≤ ((σ.2 10 0) - (σ.2 10 0) / x3 * x3) then
        some (((σ.2 10 0) - (σ.2 10 0) / x3 * x3), σ)
      else
        some ((((σ.2 10 0) - (σ.2 10 0) / x3 * x3) + x3), σ)
    else
      if jx_in x5 40 then
      if 2000 ≤ (σ.2 8 x5.toNatClampNeg) then
        f_X7_tells_b129 (f_X7_tells_b56 n) x3 x4 x5 (σ.2 8 x5.toNatClampNeg) σ
      else
        if 40 ≤ x4 then
          f_X7_tells_b129 (f_X7_tells_b56 n) x3 x4 x5 (σ.2 8 x5.toNatClampNeg) σ
        else
          if 1000 ≤ (σ.2 8 x5.toNatClampNeg) then
            if jx_in (((σ.2 8 x5.toNatClampNeg) - 1000) - ((σ.2 8 x5.toNatClampNeg) - 1000) / 7 * 7) 7 then
            f_X7_tells_b122 (f_X7_tells_b56 n) x3 x4 x5 (σ.2 11 (((σ.2 8 x5.toNatClampNeg) - 1000) - ((σ.2 8 x5.toNatClampNeg) - 1000) / 7 * 7).toNatClampNeg) x4 σ
            else none
          else
            f_X7_tells_b122 (f_X7_tells_b56 n) x3 x4 x5 (σ.2 8 x5.toNatClampNeg) x4 σ
      else none
def f_X7_tells_b51 (x3 : Int32) (x4 : Int32) (s0 : Int32) (s1 : Int32) (s2 : Int32) (σ : jT) : Option (Int32 × jT) :=
  if jx_in s2 40 then
  f_X7_tells_b56 1000 x3 x4 0 (gA σ 10 s2.toNatClampNeg (s1 + s0))
  else none
def f_X7_tells (x1 : Int32) (x2 : Int32) (σ : jT) : Option (Int32 × jT) :=
  if 1 ≤ (σ.2 11 2) then
    if ¬ (σ.2 11 2) = 2 then
      f_X7_tells_b51 (σ.2 11 2) 0 0 (((σ.2 11 2) - x1) - x2) 0 (gA (gA σ 11 0 x1) 11 1 x2)
    else
      f_X7_tells_b51 (σ.2 11 2) 0 x1 (((σ.2 11 2) - x1) - x2) 0 (gA (gA σ 11 0 x1) 11 1 x2)
  else
    some ((-1), σ)
theorem t_X7_tells_b215 {S : jS} (hS : jCok S) {d : Nat} {Q : Option Value → jx_H → Prop} {k56 : Int32 → Int32 → Int32 → jT → Option (Int32 × jT)} (hk56 : ∀ {x3 : Int32} {x4 : Int32} {x5 : Int32} {w1 : Value} {w2 : Value} {w6 : Value} {σ : jT}, jw (k56 x3 x4 x5 σ) (fun q => Q (some (.int q.1)) (jh S q.2)) → jx_Ex (d + 1) jm_l77 jm_b77_56 [.ref 7, w1, w2, .int x3, .int x4, .int x5, w6] [] (jh S σ) Q) {x3 : Int32} {x4 : Int32} {x5 : Int32} {w1 : Value} {w2 : Value} {w6 : Value} {σ : jT} (h : jw (f_X7_tells_b215 k56 x3 x4 x5 σ) (fun q => Q (some (.int q.1)) (jh S q.2))) : jx_Ex (d + 1) jm_l77 jm_b77_215 [.ref 7, w1, w2, .int x3, .int x4, .int x5, w6] [] (jh S σ) Q := by
  unfold f_X7_tells_b215 at h
  refine xo_13 (ls' := [.ref 7, w1, w2, .int x3, .int x4, .int (x5 + 1), w6]) rfl rfl ?_
  refine xo_54 (t := jm_b77_56) rfl ?_
  exact hk56 h
theorem t_X7_tells_b164 {S : jS} (hS : jCok S) {d : Nat} {Q : Option Value → jx_H → Prop} {k56 : Int32 → Int32 → Int32 → jT → Option (Int32 × jT)} (hk56 : ∀ {x3 : Int32} {x4 : Int32} {x5 : Int32} {w1 : Value} {w2 : Value} {w6 : Value} {σ : jT}, jw (k56 x3 x4 x5 σ) (fun q => Q (some (.int q.1)) (jh S q.2)) → jx_Ex (d + 1) jm_l77 jm_b77_56 [.ref 7, w1, w2, .int x3, .int x4, .int x5, w6] [] (jh S σ) Q) {x3 : Int32} {x4 : Int32} {x5 : Int32} {x6 : Int32} {w1 : Value} {w2 : Value} {σ : jT} (h : jw (f_X7_tells_b164 k56 x3 x4 x5 x6 σ) (fun q => Q (some (.int q.1)) (jh S q.2))) : jx_Ex (d + 1) jm_l77 jm_b77_164 [.ref 7, w1, w2, .int x3, .int x4, .int x5, .int x6] [] (jh S σ) Q := by
  unfold f_X7_tells_b164 at h
  refine xo_1 rfl ?_
  refine xo_10 ?_
  refine xo_66 (t := jm_b77_215) rfl (fun hc1 => ?_) (fun hc1 => ?_)
  · replace h := jw_pos hc1 h
    exact t_X7_tells_b215 hS hk56 h
  · replace h := jw_neg hc1 h
    refine xo_1 rfl ?_
    refine xo_8 ?_
    refine xo_66 (t := jm_b77_215) rfl (fun hc2 => ?_) (fun hc2 => ?_)
    · replace h := jw_pos hc2 h
      exact t_X7_tells_b215 hS hk56 h
    · replace h := jw_neg hc2 h
      refine xo_13 (ls' := [.ref 7, w1, w2, .int x3, .int (x4 + (-1)), .int x5, .int x6]) rfl rfl ?_
      refine xo_2 rfl ?_
      refine xc_33 (i := 450) (q := 10) hS ly7 rfl (xc_P hS (by decide)) ?_
      refine xo_1 rfl ?_
      refine xo_8 ?_
      refine xo_15 ?_
      refine xo_1 rfl ?_
      refine xo_10 ?_
      refine xo_15 ?_
      refine xo_2 rfl ?_
      refine xc_33 (i := 450) (q := 10) hS ly7 rfl (xc_P hS (by decide)) ?_
      refine xo_1 rfl ?_
      refine xo_8 ?_
      refine xo_15 ?_
      obtain ⟨hi3, h⟩ := jw_chk h
      refine xc_38 (j := ((x4 + (-1)) - 1).toNatClampNeg) (v := (σ.2 10 ((x4 + (-1)) - 1).toNatClampNeg)) hS ly10 ⟨Nat.le_of_ble_eq_true rfl, Nat.le_of_ble_eq_true rfl⟩ hi3 rfl rfl ?_
      refine xo_2 rfl ?_
      refine xc_33 (i := 450) (q := 10) hS ly7 rfl (xc_P hS (by decide)) ?_
      refine xo_1 rfl ?_
      obtain ⟨hi4, h⟩ := jw_chk h
      refine xc_38 (j := (x4 + (-1)).toNatClampNeg) (v := (σ.2 10 (x4 + (-1)).toNatClampNeg)) hS ly10 ⟨Nat.le_of_ble_eq_true rfl, Nat.le_of_ble_eq_true rfl⟩ hi4 rfl rfl ?_
      refine xo_50 (st' := [.int ((x4 + (-1)) - 1), .ref 10]) rfl rfl rfl (Nat.le_of_ble_eq_true rfl) ?_
      refine t_X7_joined hS ?_
      refine jw_mono (jw_bind h) (fun q5 h => ?_)
      show jx_Ex _ _ _ _ [.int q5.1, .int ((x4 + (-1)) - 1), .ref 10] (jh S q5.2) _
      refine xc_41 (j := ((x4 + (-1)) - 1).toNatClampNeg) hS ly10 ⟨Nat.le_of_ble_eq_true rfl, Nat.le_of_ble_eq_true rfl⟩ hi3 rfl ?_
      exact t_X7_tells_b215 hS hk56 h
theorem t_X7_tells_b129 {S : jS} (hS : jCok S) {d : Nat} {Q : Option Value → jx_H → Prop} {k56 : Int32 → Int32 → Int32 → jT → Option (Int32 × jT)} (hk56 : ∀ {x3 : Int32} {x4 : Int32} {x5 : Int32} {w1 : Value} {w2 : Value} {w6 : Value} {σ : jT}, jw (k56 x3 x4 x5 σ) (fun q => Q (some (.int q.1)) (jh S q.2)) → jx_Ex (d + 1) jm_l77 jm_b77_56 [.ref 7, w1, w2, .int x3, .int x4, .int x5, w6] [] (jh S σ) Q) {x3 : Int32} {x4 : Int32} {x5 : Int32} {x6 : Int32} {w1 : Value} {w2 : Value} {σ : jT} (h : jw (f_X7_tells_b129 k56 x3 x4 x5 x6 σ) (fun q => Q (some (.int q.1)) (jh S q.2))) : jx_Ex (d + 1) jm_l77 jm_b77_129 [.ref 7, w1, w2, .int x3, .int x4, .int x5, .int x6] [] (jh S σ) Q := by
  unfold f_X7_tells_b129 at h
  refine xo_1 rfl ?_
  refine xo_10 ?_
  refine xo_62 (t := jm_b77_164) rfl (fun hc1 => ?_) (fun hc1 => ?_)
  · replace h := jw_pos hc1 h
    exact t_X7_tells_b164 hS hk56 h
  · replace h := jw_neg hc1 h
    refine xo_1 rfl ?_
    refine xo_60 (t := jm_b77_164) rfl (fun hc2 => ?_) (fun hc2 => ?_)
    · replace h := jw_pos hc2 h
      exact t_X7_tells_b164 hS hk56 h
    · replace h := jw_neg hc2 h
      refine xo_2 rfl ?_
      refine xc_33 (i := 450) (q := 10) hS ly7 rfl (xc_P hS (by decide)) ?_
      refine xo_1 rfl ?_
      refine xo_8 ?_
      refine xo_15 ?_
      refine xo_2 rfl ?_
      refine xc_33 (i := 450) (q := 10) hS ly7 rfl (xc_P hS (by decide)) ?_
      refine xo_1 rfl ?_
      refine xo_8 ?_
      refine xo_15 ?_
      obtain ⟨hi3, h⟩ := jw_chk h
      refine xc_38 (j := (x4 - 1).toNatClampNeg) (v := (σ.2 10 (x4 - 1).toNatClampNeg)) hS ly10 ⟨Nat.le_of_ble_eq_true rfl, Nat.le_of_ble_eq_true rfl⟩ hi3 rfl rfl ?_
      refine xo_19 ?_
      refine xc_41 (j := (x4 - 1).toNatClampNeg) hS ly10 ⟨Nat.le_of_ble_eq_true rfl, Nat.le_of_ble_eq_true rfl⟩ hi3 rfl ?_
      refine xo_54 (t := jm_b77_215) rfl ?_
      exact t_X7_tells_b215 hS hk56 h
theorem t_X7_tells_b122 {S : jS} (hS : jCok S) {d : Nat} {Q : Option Value → jx_H → Prop} {k56 : Int32 → Int32 → Int32 → jT → Option (Int32 × jT)} (hk56 : ∀ {x3 : Int32} {x4 : Int32} {x5 : Int32} {w1 : Value} {w2 : Value} {w6 : Value} {σ : jT}, jw (k56 x3 x4 x5 σ) (fun q => Q (some (.int q.1)) (jh S q.2)) → jx_Ex (d + 1) jm_l77 jm_b77_56 [.ref 7, w1, w2, .int x3, .int x4, .int x5, w6] [] (jh S σ) Q) {x3 : Int32} {x4 : Int32} {x5 : Int32} {s0 : Int32} {s1 : Int32} {w1 : Value} {w2 : Value} {w6 : Value} {σ : jT} (h : jw (f_X7_tells_b122 k56 x3 x4 x5 s0 s1 σ) (fun q => Q (some (.int q.1)) (jh S q.2))) : jx_Ex (d + 1) jm_l77 jm_b77_122 [.ref 7, w1, w2, .int x3, .int x4, .int x5, w6] [.int s0, .int s1, .ref 10] (jh S σ) Q := by
  unfold f_X7_tells_b122 at h
  obtain ⟨hi1, h⟩ := jw_chk h
  refine xc_41 (j := s1.toNatClampNeg) hS ly10 ⟨Nat.le_of_ble_eq_true rfl, Nat.le_of_ble_eq_true rfl⟩ hi1 rfl ?_
  refine xo_13 (ls' := [.ref 7, w1, w2, .int x3, .int (x4 + 1), .int x5, w6]) rfl rfl ?_
  refine xo_54 (t := jm_b77_215) rfl ?_
  exact t_X7_tells_b215 hS hk56 h
theorem t_X7_tells_b56 {S : jS} (hS : jCok S) {d : Nat} {Q : Option Value → jx_H → Prop} : ∀ (n : Nat) {x3 : Int32} {x4 : Int32} {x5 : Int32} {w1 : Value} {w2 : Value} {w6 : Value} {σ : jT}, jw (f_X7_tells_b56 n x3 x4 x5 σ) (fun q => Q (some (.int q.1)) (jh S q.2)) → jx_Ex (d + 1) jm_l77 jm_b77_56 [.ref 7, w1, w2, .int x3, .int x4, .int x5, w6] [] (jh S σ) Q := by
  intro n
  induction n with
  | zero => intro x3 x4 x5 w1 w2 w6 σ h; exact jw_none h
  | succ n ih =>
    intro x3 x4 x5 w1 w2 w6 σ h
    rw [f_X7_tells_b56] at h
    refine xo_1 rfl ?_
    refine xo_2 rfl ?_
    refine xc_32 (i := 452) (v := (σ.1 452)) hS ly7 rfl ⟨Nat.le_of_ble_eq_true rfl, Nat.le_of_ble_eq_true rfl⟩ rfl ?_
    refine xo_64 (t := jm_b77_221) rfl (fun hc1 => ?_) (fun hc1 => ?_)
    · replace h := jw_pos hc1 h
      refine xo_2 rfl ?_
      refine xc_33 (i := 450) (q := 10) hS ly7 rfl (xc_P hS (by decide)) ?_
      refine xo_8 ?_
      refine xc_38 (j := 0) (v := (σ.2 10 0)) hS ly10 ⟨Nat.le_of_ble_eq_true rfl, Nat.le_of_ble_eq_true rfl⟩ (by decide) (by decide) rfl ?_
      refine xo_0 rfl ?_
      obtain ⟨hy2, h⟩ := jw_chn h
      refine xo_18 hy2 ?_
      refine xo_5 (ls' := [.ref 7, w1, w2, .int x3, .int x4, .int ((σ.2 10 0) - (σ.2 10 0) / x3 * x3), w6]) rfl ?_
      refine xo_1 rfl ?_
      refine xo_58 (t := jm_b77_243) rfl (fun hc3 => ?_) (fun hc3 => ?_)
      · replace h := jw_pos hc3 h
        refine xo_1 rfl ?_
        replace h := jw_some h
        exact xo_69 h
      · replace h := jw_neg hc3 h
        refine xo_1 rfl ?_
        refine xo_0 rfl ?_
        refine xo_14 ?_
        refine xo_54 (t := jm_b77_245) rfl ?_
        replace h := jw_some h
        exact xo_69 h
    · replace h := jw_neg hc1 h
      refine xo_2 rfl ?_
      refine xc_33 (i := 448) (q := 8) hS ly7 rfl (xc_P hS (by decide)) ?_
      refine xo_1 rfl ?_
      obtain ⟨hi4, h⟩ := jw_chk h
      refine xc_38 (j := x5.toNatClampNeg) (v := (σ.2 8 x5.toNatClampNeg)) hS ly8 ⟨Nat.le_of_ble_eq_true rfl, Nat.le_of_ble_eq_true rfl⟩ hi4 rfl rfl ?_
      refine xo_5 (ls' := [.ref 7, w1, w2, .int x3, .int x4, .int x5, .int (σ.2 8 x5.toNatClampNeg)]) rfl ?_
      refine xo_1 rfl ?_
      refine xo_10 ?_
      refine xo_64 (t := jm_b77_129) rfl (fun hc5 => ?_) (fun hc5 => ?_)
      · replace h := jw_pos hc5 h
        exact t_X7_tells_b129 hS ih h
      · replace h := jw_neg hc5 h
        refine xo_1 rfl ?_
        refine xo_9 ?_
        refine xo_64 (t := jm_b77_129) rfl (fun hc6 => ?_) (fun hc6 => ?_)
        · replace h := jw_pos hc6 h
          exact t_X7_tells_b129 hS ih h
        · replace h := jw_neg hc6 h
          refine xo_2 rfl ?_
          refine xc_33 (i := 450) (q := 10) hS ly7 rfl (xc_P hS (by decide)) ?_
          refine xo_1 rfl ?_
          refine xo_1 rfl ?_
          refine xo_10 ?_
          refine xo_64 (t := jm_b77_108) rfl (fun hc7 => ?_) (fun hc7 => ?_)
          · replace h := jw_pos hc7 h
            refine xo_2 rfl ?_
            refine xc_33 (i := 451) (q := 11) hS ly7 rfl (xc_P hS (by decide)) ?_
            refine xo_1 rfl ?_
            refine xo_10 ?_
            refine xo_15 ?_
            refine xo_9 ?_
            refine xo_18 (by decide) ?_
            obtain ⟨hi8, h⟩ := jw_chk h
            refine xc_38 (j := (((σ.2 8 x5.toNatClampNeg) - 1000) - ((σ.2 8 x5.toNatClampNeg) - 1000) / 7 * 7).toNatClampNeg) (v := (σ.2 11 (((σ.2 8 x5.toNatClampNeg) - 1000) - ((σ.2 8 x5.toNatClampNeg) - 1000) / 7 * 7).toNatClampNeg)) hS ly11 ⟨Nat.le_of_ble_eq_true rfl, Nat.le_of_ble_eq_true rfl⟩ hi8 rfl rfl ?_
            exact t_X7_tells_b122 hS ih h
          · replace h := jw_neg hc7 h
            refine xo_1 rfl ?_
            refine xo_54 (t := jm_b77_122) rfl ?_
            exact t_X7_tells_b122 hS ih h
theorem t_X7_tells_b51 {S : jS} (hS : jCok S) {d : Nat} {Q : Option Value → jx_H → Prop} {x3 : Int32} {x4 : Int32} {s0 : Int32} {s1 : Int32} {s2 : Int32} {w1 : Value} {w2 : Value} {w5 : Value} {w6 : Value} {σ : jT} (h : jw (f_X7_tells_b51 x3 x4 s0 s1 s2 σ) (fun q => Q (some (.int q.1)) (jh S q.2))) : jx_Ex (d + 1) jm_l77 jm_b77_51 [.ref 7, w1, w2, .int x3, .int x4, w5, w6] [.int s0, .int s1, .int s2, .ref 10] (jh S σ) Q := by
  unfold f_X7_tells_b51 at h
  refine xo_14 ?_
  obtain ⟨hi1, h⟩ := jw_chk h
  refine xc_41 (j := s2.toNatClampNeg) hS ly10 ⟨Nat.le_of_ble_eq_true rfl, Nat.le_of_ble_eq_true rfl⟩ hi1 rfl ?_
  refine xo_8 ?_
  refine xo_5 (ls' := [.ref 7, w1, w2, .int x3, .int x4, .int 0, w6]) rfl ?_
  exact t_X7_tells_b56 hS 1000 h
theorem t_X7_tells {S : jS} (hS : jCok S) {d : Nat} {Q : Option Value → jx_H → Prop} {x1 : Int32} {x2 : Int32} {σ : jT} (h : jw (f_X7_tells x1 x2 σ) (fun q => Q (some (.int q.1)) (jh S q.2))) : jx_Sp (d + 1) 77 [.ref 7, .int x1, .int x2] (jh S σ) Q := by
  refine ⟨jm_i77, jm_at77, rfl, rfl, ?_⟩
  show jx_Ex _ jm_l77 jm_b77_0 [.ref 7, .int x1, .int x2, .retAddr 0, .retAddr 0, .retAddr 0, .retAddr 0] [] _ _
  unfold f_X7_tells at h
  refine xo_2 rfl ?_
  refine xc_33 (i := 451) (q := 11) hS ly7 rfl (xc_P hS (by decide)) ?_
  refine xo_8 ?_
  refine xc_38 (j := 2) (v := (σ.2 11 2)) hS ly11 ⟨Nat.le_of_ble_eq_true rfl, Nat.le_of_ble_eq_true rfl⟩ (by decide) (by decide) rfl ?_
  refine xo_4 (ls' := [.ref 7, .int x1, .int x2, .int (σ.2 11 2), .retAddr 0, .retAddr 0, .retAddr 0]) rfl ?_
  refine xo_0 rfl ?_
  refine xo_8 ?_
  refine xo_64 (t := jm_b77_14) rfl (fun hc1 => ?_) (fun hc1 => ?_)
  · replace h := jw_pos hc1 h
    refine xo_2 rfl ?_
    refine xc_33 (i := 451) (q := 11) hS ly7 rfl (xc_P hS (by decide)) ?_
    refine xo_8 ?_
    refine xo_0 rfl ?_
    refine xc_41 (j := 0) hS ly11 ⟨Nat.le_of_ble_eq_true rfl, Nat.le_of_ble_eq_true rfl⟩ (by decide) (by decide) ?_
    refine xo_2 rfl ?_
    refine xc_33 (i := 451) (q := 11) hS ly7 rfl (xc_P hS (by decide)) ?_
    refine xo_8 ?_
    refine xo_0 rfl ?_
    refine xc_41 (j := 1) hS ly11 ⟨Nat.le_of_ble_eq_true rfl, Nat.le_of_ble_eq_true rfl⟩ (by decide) (by decide) ?_
    refine xo_8 ?_
    refine xo_5 (ls' := [.ref 7, .int x1, .int x2, .int (σ.2 11 2), .int 0, .retAddr 0, .retAddr 0]) rfl ?_
    refine xo_2 rfl ?_
    refine xc_33 (i := 450) (q := 10) hS ly7 rfl (xc_P hS (by decide)) ?_
    refine xo_8 ?_
    refine xo_0 rfl ?_
    refine xo_0 rfl ?_
    refine xo_15 ?_
    refine xo_0 rfl ?_
    refine xo_15 ?_
    refine xo_0 rfl ?_
    refine xo_8 ?_
    refine xo_62 (t := jm_b77_50) rfl (fun hc2 => ?_) (fun hc2 => ?_)
    · replace h := jw_pos hc2 h
      refine xo_8 ?_
      exact t_X7_tells_b51 hS h
    · replace h := jw_neg hc2 h
      refine xo_0 rfl ?_
      refine xo_54 (t := jm_b77_51) rfl ?_
      exact t_X7_tells_b51 hS h
  · replace h := jw_neg hc1 h
    refine xo_8 ?_
    replace h := jw_some h
    exact xo_69 h
