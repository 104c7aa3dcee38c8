/-! ===== methods as functions ===== -/
/-- Standing.copy, at ['x.now', 'x.history.past[11]'] -/
def f_X8_copy_at12_38 (σ : jT) : Option (Int32 × jT) :=
  some (0, (gC σ 39 13 0 0 28))
theorem t_X8_copy_at12_38 {S : jS} (hS : jCok S) {d : Nat} {Q : Option Value → jx_H → Prop} {σ : jT} (h : jw (f_X8_copy_at12_38 σ) (fun q => Q none (jh S q.2))) : jx_Sp (d) 89 [.ref 12, .ref 38] (jh S σ) Q := by
  refine ⟨jm_i89, jm_at89, rfl, rfl, ?_⟩
  show jx_Ex _ jm_l89 jm_b89_0 [.ref 12, .ref 38] [] _ _
  unfold f_X8_copy_at12_38 at h
  refine xo_2 rfl ?_
  refine xc_33 (i := 2432) (q := 39) hS ly38 rfl (xc_P hS (by decide)) ?_
  refine xo_8 ?_
  refine xo_2 rfl ?_
  refine xc_33 (i := 768) (q := 13) hS ly12 rfl (xc_P hS (by decide)) ?_
  refine xo_8 ?_
  refine xo_9 ?_
  refine xc_53 (sp' := 0) (dp' := 0) (n' := 28) hS ly39 ly13 ⟨Nat.le_of_ble_eq_true rfl, Nat.le_of_ble_eq_true rfl⟩ ⟨Nat.le_of_ble_eq_true rfl, Nat.le_of_ble_eq_true rfl⟩ (by decide) (by decide) (by decide) (by decide) (by decide) (by decide) (Nat.le_of_ble_eq_true rfl) ?_
  replace h := jw_some h
  exact xo_71 h
/-- Standing.copy, at ['x.now', 'x.history.past[12]'] -/
def f_X8_copy_at12_40 (σ : jT) : Option (Int32 × jT) :=
  some (0, (gC σ 41 13 0 0 28))
theorem t_X8_copy_at12_40 {S : jS} (hS : jCok S) {d : Nat} {Q : Option Value → jx_H → Prop} {σ : jT} (h : jw (f_X8_copy_at12_40 σ) (fun q => Q none (jh S q.2))) : jx_Sp (d) 89 [.ref 12, .ref 40] (jh S σ) Q := by
  refine ⟨jm_i89, jm_at89, rfl, rfl, ?_⟩
  show jx_Ex _ jm_l89 jm_b89_0 [.ref 12, .ref 40] [] _ _
  unfold f_X8_copy_at12_40 at h
  refine xo_2 rfl ?_
  refine xc_33 (i := 2560) (q := 41) hS ly40 rfl (xc_P hS (by decide)) ?_
  refine xo_8 ?_
  refine xo_2 rfl ?_
  refine xc_33 (i := 768) (q := 13) hS ly12 rfl (xc_P hS (by decide)) ?_
  refine xo_8 ?_
  refine xo_9 ?_
  refine xc_53 (sp' := 0) (dp' := 0) (n' := 28) hS ly41 ly13 ⟨Nat.le_of_ble_eq_true rfl, Nat.le_of_ble_eq_true rfl⟩ ⟨Nat.le_of_ble_eq_true rfl, Nat.le_of_ble_eq_true rfl⟩ (by decide) (by decide) (by decide) (by decide) (by decide) (by decide) (Nat.le_of_ble_eq_true rfl) ?_
  replace h := jw_some h
  exact xo_71 h
/-- History.back, at ['x.history', 'x.now'] -/
def f_X2_back_12 (σ : jT) : Option (Int32 × jT) :=
  if ¬ (σ.1 899) = 0 then
    if ((((σ.1 898) + 13) - 1) - (((σ.1 898) + 13) - 1) / 13 * 13) = 0 then
      (f_X8_copy_at12_16 (gs (gs σ 898 ((((σ.1 898) + 13) - 1) - (((σ.1 898) + 13) - 1) / 13 * 13)) 899 ((σ.1 899) - 1))).bind fun q3 =>
      some (1, q3.2)
    else
    if ((((σ.1 898) + 13) - 1) - (((σ.1 898) + 13) - 1) / 13 * 13) = 1 then
      (f_X8_copy_at12_18 (gs (gs σ 898 ((((σ.1 898) + 13) - 1) - (((σ.1 898) + 13) - 1) / 13 * 13)) 899 ((σ.1 899) - 1))).bind fun q5 =>
      some (1, q5.2)
    else
    if ((((σ.1 898) + 13) - 1) - (((σ.1 898) + 13) - 1) / 13 * 13) = 2 then
      (f_X8_copy_at12_20 (gs (gs σ 898 ((((σ.1 898) + 13) - 1) - (((σ.1 898) + 13) - 1) / 13 * 13)) 899 ((σ.1 899) - 1))).bind fun q7 =>
      some (1, q7.2)
    else
    if ((((σ.1 898) + 13) - 1) - (((σ.1 898) + 13) - 1) / 13 * 13) = 3 then
      (f_X8_copy_at12_22 (gs (gs σ 898 ((((σ.1 898) + 13) - 1) - (((σ.1 898) + 13) - 1) / 13 * 13)) 899 ((σ.1 899) - 1))).bind fun q9 =>
      some (1, q9.2)
    else
    if ((((σ.1 898) + 13) - 1) - (((σ.1 898) + 13) - 1) / 13 * 13) = 4 then
      (f_X8_copy_at12_24 (gs (gs σ 898 ((((σ.1 898) + 13) - 1) - (((σ.1 898) + 13) - 1) / 13 * 13)) 899 ((σ.1 899) - 1))).bind fun q11 =>
      some (1, q11.2)
    else
    if ((((σ.1 898) + 13) - 1) - (((σ.1 898) + 13) - 1) / 13 * 13) = 5 then
      (f_X8_copy_at12_26 (gs (gs σ 898 ((((σ.1 898) + 13) - 1) - (((σ.1 898) + 13) - 1) / 13 * 13)) 899 ((σ.1 899) - 1))).bind fun q13 =>
      some (1, q13.2)
    else
    if ((((σ.1 898) + 13) - 1) - (((σ.1 898) + 13) - 1) / 13 * 13) = 6 then
      (f_X8_copy_at12_28 (gs (gs σ 898 ((((σ.1 898) + 13) - 1) - (((σ.1 898) + 13) - 1) / 13 * 13)) 899 ((σ.1 899) - 1))).bind fun q15 =>
      some (1, q15.2)
    else
    if ((((σ.1 898) + 13) - 1) - (((σ.1 898) + 13) - 1) / 13 * 13) = 7 then
      (f_X8_copy_at12_30 (gs (gs σ 898 ((((σ.1 898) + 13) - 1) - (((σ.1 898) + 13) - 1) / 13 * 13)) 899 ((σ.1 899) - 1))).bind fun q17 =>
      some (1, q17.2)
    else
    if ((((σ.1 898) + 13) - 1) - (((σ.1 898) + 13) - 1) / 13 * 13) = 8 then
      (f_X8_copy_at12_32 (gs (gs σ 898 ((((σ.1 898) + 13) - 1) - (((σ.1 898) + 13) - 1) / 13 * 13)) 899 ((σ.1 899) - 1))).bind fun q19 =>
      some (1, q19.2)
    else
    if ((((σ.1 898) + 13) - 1) - (((σ.1 898) + 13) - 1) / 13 * 13) = 9 then
      (f_X8_copy_at12_34 (gs (gs σ 898 ((((σ.1 898) + 13) - 1) - (((σ.1 898) + 13) - 1) / 13 * 13)) 899 ((σ.1 899) - 1))).bind fun q21 =>
      some (1, q21.2)
    else
    if ((((σ.1 898) + 13) - 1) - (((σ.1 898) + 13) - 1) / 13 * 13) = 10 then
      (f_X8_copy_at12_36 (gs (gs σ 898 ((((σ.1 898) + 13) - 1) - (((σ.1 898) + 13) - 1) / 13 * 13)) 899 ((σ.1 899) - 1))).bind fun q23 =>
      some (1, q23.2)
    else
    if ((((σ.1 898) + 13) - 1) - (((σ.1 898) + 13) - 1) / 13 * 13) = 11 then
      (f_X8_copy_at12_38 (gs (gs σ 898 ((((σ.1 898) + 13) - 1) - (((σ.1 898) + 13) - 1) / 13 * 13)) 899 ((σ.1 899) - 1))).bind fun q25 =>
      some (1, q25.2)
    else
    if ((((σ.1 898) + 13) - 1) - (((σ.1 898) + 13) - 1) / 13 * 13) = 12 then
      (f_X8_copy_at12_40 (gs (gs σ 898 ((((σ.1 898) + 13) - 1) - (((σ.1 898) + 13) - 1) / 13 * 13)) 899 ((σ.1 899) - 1))).bind fun q27 =>
      some (1, q27.2)
    else
    none
  else
    some (0, σ)
theorem t_X2_back_12 {S : jS} (hS : jCok S) {d : Nat} {Q : Option Value → jx_H → Prop} {σ : jT} (h : jw (f_X2_back_12 σ) (fun q => Q (some (.int q.1)) (jh S q.2))) : jx_Sp (d + 1) 23 [.ref 14, .ref 12] (jh S σ) Q := by
  refine ⟨jm_i23, jm_at23, rfl, rfl, ?_⟩
  show jx_Ex _ jm_l23 jm_b23_0 [.ref 14, .ref 12] [] _ _
  unfold f_X2_back_12 at h
  refine xo_2 rfl ?_
  refine xc_32 (i := 899) (v := (σ.1 899)) hS ly14 rfl ⟨Nat.le_of_ble_eq_true rfl, Nat.le_of_ble_eq_true rfl⟩ rfl ?_
  refine xo_56 (t := jm_b23_9) rfl (fun hc1 => ?_) (fun hc1 => ?_)
  · replace h := jw_pos hc1 h
    refine xo_2 rfl ?_
    refine xo_2 rfl ?_
    refine xc_32 (i := 898) (v := (σ.1 898)) hS ly14 rfl ⟨Nat.le_of_ble_eq_true rfl, Nat.le_of_ble_eq_true rfl⟩ rfl ?_
    refine xo_9 ?_
    refine xo_14 ?_
    refine xo_8 ?_
    refine xo_15 ?_
    refine xo_9 ?_
    refine xo_18 (by decide) ?_
    refine xc_34 (i := 898) hS ly14 rfl ⟨Nat.le_of_ble_eq_true rfl, Nat.le_of_ble_eq_true rfl⟩ ?_
    refine xo_2 rfl ?_
    refine xo_28r ?_
    refine xc_32 (i := 899) (v := (σ.1 899)) hS ly14 rfl ⟨Nat.le_of_ble_eq_true rfl, Nat.le_of_ble_eq_true rfl⟩ rfl ?_
    refine xo_8 ?_
    refine xo_15 ?_
    refine xc_34 (i := 899) hS ly14 rfl ⟨Nat.le_of_ble_eq_true rfl, Nat.le_of_ble_eq_true rfl⟩ ?_
    refine xo_2 rfl ?_
    refine xo_2 rfl ?_
    refine xc_33 (i := 896) (q := 15) hS ly14 rfl (xc_P hS (by decide)) ?_
    refine xo_2 rfl ?_
    refine xc_32 (i := 898) (v := ((((σ.1 898) + 13) - 1) - (((σ.1 898) + 13) - 1) / 13 * 13)) hS ly14 rfl ⟨Nat.le_of_ble_eq_true rfl, Nat.le_of_ble_eq_true rfl⟩ rfl ?_
    by_cases hc2 : ((((σ.1 898) + 13) - 1) - (((σ.1 898) + 13) - 1) / 13 * 13) = 0
    · replace h := jw_pos hc2 h
      refine xc_44 (j := 960) (q := 16) hS ly15 (by decide) (by rw [hc2]; decide) (by rw [hc2]; decide) (xc_P hS (by decide)) ?_
      refine xo_49 (st' := []) rfl rfl (xc_ly hS ly12) rfl (Nat.le_of_ble_eq_true rfl) ?_
      refine t_X8_copy_at12_16 hS ?_
      refine jw_mono (jw_bind h) (fun q3 h => ?_)
      show jx_Ex _ _ _ _ [] (jh S q3.2) _
      refine xo_8 ?_
      replace h := jw_some h
      exact xo_70 (by decide) h
    replace h := jw_neg hc2 h
    by_cases hc4 : ((((σ.1 898) + 13) - 1) - (((σ.1 898) + 13) - 1) / 13 * 13) = 1
    · replace h := jw_pos hc4 h
      refine xc_44 (j := 961) (q := 18) hS ly15 (by decide) (by rw [hc4]; decide) (by rw [hc4]; decide) (xc_P hS (by decide)) ?_
      refine xo_49 (st' := []) rfl rfl (xc_ly hS ly12) rfl (Nat.le_of_ble_eq_true rfl) ?_
      refine t_X8_copy_at12_18 hS ?_
      refine jw_mono (jw_bind h) (fun q5 h => ?_)
      show jx_Ex _ _ _ _ [] (jh S q5.2) _
      refine xo_8 ?_
      replace h := jw_some h
      exact xo_70 (by decide) h
    replace h := jw_neg hc4 h
    by_cases hc6 : ((((σ.1 898) + 13) - 1) - (((σ.1 898) + 13) - 1) / 13 * 13) = 2
    · replace h := jw_pos hc6 h
      refine xc_44 (j := 962) (q := 20) hS ly15 (by decide) (by rw [hc6]; decide) (by rw [hc6]; decide) (xc_P hS (by decide)) ?_
      refine xo_49 (st' := []) rfl rfl (xc_ly hS ly12) rfl (Nat.le_of_ble_eq_true rfl) ?_
      refine t_X8_copy_at12_20 hS ?_
      refine jw_mono (jw_bind h) (fun q7 h => ?_)
      show jx_Ex _ _ _ _ [] (jh S q7.2) _
      refine xo_8 ?_
      replace h := jw_some h
      exact xo_70 (by decide) h
    replace h := jw_neg hc6 h
    by_cases hc8 : ((((σ.1 898) + 13) - 1) - (((σ.1 898) + 13) - 1) / 13 * 13) = 3
    · replace h := jw_pos hc8 h
      refine xc_44 (j := 963) (q := 22) hS ly15 (by decide) (by rw [hc8]; decide) (by rw [hc8]; decide) (xc_P hS (by decide)) ?_
      refine xo_49 (st' := []) rfl rfl (xc_ly hS ly12) rfl (Nat.le_of_ble_eq_true rfl) ?_
      refine t_X8_copy_at12_22 hS ?_
      refine jw_mono (jw_bind h) (fun q9 h => ?_)
      show jx_Ex _ _ _ _ [] (jh S q9.2) _
      refine xo_8 ?_
      replace h := jw_some h
      exact xo_70 (by decide) h
    replace h := jw_neg hc8 h
    by_cases hc10 : ((((σ.1 898) + 13) - 1) - (((σ.1 898) + 13) - 1) / 13 * 13) = 4
    · replace h := jw_pos hc10 h
      refine xc_44 (j := 964) (q := 24) hS ly15 (by decide) (by rw [hc10]; decide) (by rw [hc10]; decide) (xc_P hS (by decide)) ?_
      refine xo_49 (st' := []) rfl rfl (xc_ly hS ly12) rfl (Nat.le_of_ble_eq_true rfl) ?_
      refine t_X8_copy_at12_24 hS ?_
      refine jw_mono (jw_bind h) (fun q11 h => ?_)
      show jx_Ex _ _ _ _ [] (jh S q11.2) _
      refine xo_8 ?_
      replace h := jw_some h
      exact xo_70 (by decide) h
    replace h := jw_neg hc10 h
    by_cases hc12 : ((((σ.1 898) + 13) - 1) - (((σ.1 898) + 13) - 1) / 13 * 13) = 5
    · replace h := jw_pos hc12 h
      refine xc_44 (j := 965) (q := 26) hS ly15 (by decide) (by rw [hc12]; decide) (by rw [hc12]; decide) (xc_P hS (by decide)) ?_
      refine xo_49 (st' := []) rfl rfl (xc_ly hS ly12) rfl (Nat.le_of_ble_eq_true rfl) ?_
      refine t_X8_copy_at12_26 hS ?_
      refine jw_mono (jw_bind h) (fun q13 h => ?_)
      show jx_Ex _ _ _ _ [] (jh S q13.2) _
      refine xo_8 ?_
      replace h := jw_some h
      exact xo_70 (by decide) h
    replace h := jw_neg hc12 h
    by_cases hc14 : ((((σ.1 898) + 13) - 1) - (((σ.1 898) + 13) - 1) / 13 * 13) = 6
    · replace h := jw_pos hc14 h
      refine xc_44 (j := 966) (q := 28) hS ly15 (by decide) (by rw [hc14]; decide) (by rw [hc14]; decide) (xc_P hS (by decide)) ?_
      refine xo_49 (st' := []) rfl rfl (xc_ly hS ly12) rfl (Nat.le_of_ble_eq_true rfl) ?_
      refine t_X8_copy_at12_28 hS ?_
      refine jw_mono (jw_bind h) (fun q15 h => ?_)
      show jx_Ex _ _ _ _ [] (jh S q15.2) _
      refine xo_8 ?_
      replace h := jw_some h
      exact xo_70 (by decide) h
    replace h := jw_neg hc14 h
    by_cases hc16 : ((((σ.1 898) + 13) - 1) - (((σ.1 898) + 13) - 1) / 13 * 13) = 7
    · replace h := jw_pos hc16 h
      refine xc_44 (j := 967) (q := 30) hS ly15 (by decide) (by rw [hc16]; decide) (by rw [hc16]; decide) (xc_P hS (by decide)) ?_
      refine xo_49 (st' := []) rfl rfl (xc_ly hS ly12) rfl (Nat.le_of_ble_eq_true rfl) ?_
      refine t_X8_copy_at12_30 hS ?_
      refine jw_mono (jw_bind h) (fun q17 h => ?_)
      show jx_Ex _ _ _ _ [] (jh S q17.2) _
      refine xo_8 ?_
      replace h := jw_some h
      exact xo_70 (by decide) h
    replace h := jw_neg hc16 h
    by_cases hc18 : ((((σ.1 898) + 13) - 1) - (((σ.1 898) + 13) - 1) / 13 * 13) = 8
    · replace h := jw_pos hc18 h
      refine xc_44 (j := 968) (q := 32) hS ly15 (by decide) (by rw [hc18]; decide) (by rw [hc18]; decide) (xc_P hS (by decide)) ?_
      refine xo_49 (st' := []) rfl rfl (xc_ly hS ly12) rfl (Nat.le_of_ble_eq_true rfl) ?_
      refine t_X8_copy_at12_32 hS ?_
      refine jw_mono (jw_bind h) (fun q19 h => ?_)
      show jx_Ex _ _ _ _ [] (jh S q19.2) _
      refine xo_8 ?_
      replace h := jw_some h
      exact xo_70 (by decide) h
    replace h := jw_neg hc18 h
    by_cases hc20 : ((((σ.1 898) + 13) - 1) - (((σ.1 898) + 13) - 1) / 13 * 13) = 9
    · replace h := jw_pos hc20 h
      refine xc_44 (j := 969) (q := 34) hS ly15 (by decide) (by rw [hc20]; decide) (by rw [hc20]; decide) (xc_P hS (by decide)) ?_
      refine xo_49 (st' := []) rfl rfl (xc_ly hS ly12) rfl (Nat.le_of_ble_eq_true rfl) ?_
      refine t_X8_copy_at12_34 hS ?_
      refine jw_mono (jw_bind h) (fun q21 h => ?_)
      show jx_Ex _ _ _ _ [] (jh S q21.2) _
      refine xo_8 ?_
      replace h := jw_some h
      exact xo_70 (by decide) h
    replace h := jw_neg hc20 h
    by_cases hc22 : ((((σ.1 898) + 13) - 1) - (((σ.1 898) + 13) - 1) / 13 * 13) = 10
    · replace h := jw_pos hc22 h
      refine xc_44 (j := 970) (q := 36) hS ly15 (by decide) (by rw [hc22]; decide) (by rw [hc22]; decide) (xc_P hS (by decide)) ?_
      refine xo_49 (st' := []) rfl rfl (xc_ly hS ly12) rfl (Nat.le_of_ble_eq_true rfl) ?_
      refine t_X8_copy_at12_36 hS ?_
      refine jw_mono (jw_bind h) (fun q23 h => ?_)
      show jx_Ex _ _ _ _ [] (jh S q23.2) _
      refine xo_8 ?_
      replace h := jw_some h
      exact xo_70 (by decide) h
    replace h := jw_neg hc22 h
    by_cases hc24 : ((((σ.1 898) + 13) - 1) - (((σ.1 898) + 13) - 1) / 13 * 13) = 11
    · replace h := jw_pos hc24 h
      refine xc_44 (j := 971) (q := 38) hS ly15 (by decide) (by rw [hc24]; decide) (by rw [hc24]; decide) (xc_P hS (by decide)) ?_
      refine xo_49 (st' := []) rfl rfl (xc_ly hS ly12) rfl (Nat.le_of_ble_eq_true rfl) ?_
      refine t_X8_copy_at12_38 hS ?_
      refine jw_mono (jw_bind h) (fun q25 h => ?_)
      show jx_Ex _ _ _ _ [] (jh S q25.2) _
      refine xo_8 ?_
      replace h := jw_some h
      exact xo_70 (by decide) h
    replace h := jw_neg hc24 h
    by_cases hc26 : ((((σ.1 898) + 13) - 1) - (((σ.1 898) + 13) - 1) / 13 * 13) = 12
    · replace h := jw_pos hc26 h
      refine xc_44 (j := 972) (q := 40) hS ly15 (by decide) (by rw [hc26]; decide) (by rw [hc26]; decide) (xc_P hS (by decide)) ?_
      refine xo_49 (st' := []) rfl rfl (xc_ly hS ly12) rfl (Nat.le_of_ble_eq_true rfl) ?_
      refine t_X8_copy_at12_40 hS ?_
      refine jw_mono (jw_bind h) (fun q27 h => ?_)
      show jx_Ex _ _ _ _ [] (jh S q27.2) _
      refine xo_8 ?_
      replace h := jw_some h
      exact xo_70 (by decide) h
    replace h := jw_neg hc26 h
    exact jw_none h
  · replace h := jw_neg hc1 h
    refine xo_8 ?_
    replace h := jw_some h
    exact xo_70 (by decide) h
/-- History.size, at ['x.history'] -/
def f_X2_size (σ : jT) : Option (Int32 × jT) :=
  some ((σ.1 899), σ)
theorem t_X2_size {S : jS} (hS : jCok S) {d : Nat} {Q : Option Value → jx_H → Prop} {σ : jT} (h : jw (f_X2_size σ) (fun q => Q (some (.int q.1)) (jh S q.2))) : jx_Sp (d) 19 [.ref 14] (jh S σ) Q := by
  refine ⟨jm_i19, jm_at19, rfl, rfl, ?_⟩
  show jx_Ex _ jm_l19 jm_b19_0 [.ref 14] [] _ _
  unfold f_X2_size at h
  refine xo_2 rfl ?_
  refine xc_32 (i := 899) (v := (σ.1 899)) hS ly14 rfl ⟨Nat.le_of_ble_eq_true rfl, Nat.le_of_ble_eq_true rfl⟩ rfl ?_
  replace h := jw_some h
  exact xo_69 h
/-- OfDifferentMinds.undo, at ['x'] -/
def f_X10_undo (σ : jT) : Option (Int32 × jT) :=
  (f_X2_back_12 σ).bind fun q1 =>
  if ¬ q1.1 = 0 then
    (f_X10_limitSpent q1.2).bind fun q3 =>
    (f_X2_size q3.2).bind fun q4 =>
    some (q4.1, q4.2)
  else
    some ((-1), q1.2)
theorem t_X10_undo {S : jS} (hS : jCok S) {d : Nat} {Q : Option Value → jx_H → Prop} {σ : jT} (h : jw (f_X10_undo σ) (fun q => Q (some (.int q.1)) (jh S q.2))) : jx_Sp (d + 3) 161 [.ref 0] (jh S σ) Q := by
  refine ⟨jm_i161, jm_at161, rfl, rfl, ?_⟩
  show jx_Ex _ jm_l161 jm_b161_0 [.ref 0] [] _ _
  unfold f_X10_undo at h
  refine xo_2 rfl ?_
  refine xc_33 (i := 4) (q := 14) hS ly0 rfl (xc_P hS (by decide)) ?_
  refine xo_2 rfl ?_
  refine xc_33 (i := 3) (q := 12) hS ly0 rfl (xc_P hS (by decide)) ?_
  refine xo_49 (st' := []) rfl rfl (xc_ly hS ly14) rfl (Nat.le_of_ble_eq_true rfl) ?_
  refine t_X2_back_12 hS ?_
  refine jw_mono (jw_bind h) (fun q1 h => ?_)
  show jx_Ex _ _ _ _ [.int q1.1] (jh S q1.2) _
  refine xo_56 (t := jm_b161_16) rfl (fun hc2 => ?_) (fun hc2 => ?_)
  · replace h := jw_pos hc2 h
    refine xo_2 rfl ?_
    refine xo_49 (st' := []) rfl rfl (xc_ly hS ly0) rfl (Nat.le_of_ble_eq_true rfl) ?_
    refine t_X10_limitSpent hS ?_
    refine jw_mono (jw_bind h) (fun q3 h => ?_)
    show jx_Ex _ _ _ _ [] (jh S q3.2) _
    refine xo_2 rfl ?_
    refine xc_33 (i := 4) (q := 14) hS ly0 rfl (xc_P hS (by decide)) ?_
    refine xo_49 (st' := []) rfl rfl (xc_ly hS ly14) rfl (Nat.le_of_ble_eq_true rfl) ?_
    refine t_X2_size hS ?_
    refine jw_mono (jw_bind h) (fun q4 h => ?_)
    show jx_Ex _ _ _ _ [.int q4.1] (jh S q4.2) _
    replace h := jw_some h
    exact xo_69 h
  · replace h := jw_neg hc2 h
    refine xo_8 ?_
    replace h := jw_some h
    exact xo_69 h
/-- OfDifferentMinds.where, at ['x', 'int'] -/
def f_X10_where_b81 (s0 : Int32) (s1 : Int32) (σ : jT) : Option (Int32 × jT) :=
  (f_X6_tell_ s1 s0 σ).bind fun q1 =>
  (f_X5_spot q1.2).bind fun q2 =>
  some (q2.1, q2.2)
def f_X10_where (x1 : Int32) (σ : jT) : Option (Int32 × jT) :=
  if x1 < 0 then
    some ((-1), σ)
  else
    if x1 ≤ 200 then
      (f_X8_isMounted σ).bind fun q3 =>
      if ¬ q3.1 = 0 then
        (f_X5_resume q3.2).bind fun q5 =>
        (f_X5_go x1 q5.2).bind fun q6 =>
        (f_X5_taken q6.2).bind fun q7 =>
        (f_X5_hasStopped q7.2).bind fun q8 =>
        if q8.1 = 0 then
          f_X10_where_b81 0 q7.1 q8.2
        else
          f_X10_where_b81 1 q7.1 q8.2
      else
        (f_X6_tell_ 0 1 q3.2).bind fun q10 =>
        (f_X8_horse q10.2).bind fun q11 =>
        some (q11.1, q11.2)
    else
      some ((-1), σ)
theorem t_X10_where_b81 {S : jS} (hS : jCok S) {d : Nat} {Q : Option Value → jx_H → Prop} {s0 : Int32} {s1 : Int32} {w1 : Value} {σ : jT} (h : jw (f_X10_where_b81 s0 s1 σ) (fun q => Q (some (.int q.1)) (jh S q.2))) : jx_Ex (d + 5) jm_l162 jm_b162_81 [.ref 0, w1] [.int s0, .int s1, .ref 47] (jh S σ) Q := by
  unfold f_X10_where_b81 at h
  refine xo_49 (st' := []) rfl rfl (xc_ly hS ly47) rfl (Nat.le_of_ble_eq_true rfl) ?_
  refine t_X6_tell_ hS ?_
  refine jw_mono (jw_bind h) (fun q1 h => ?_)
  show jx_Ex _ _ _ _ [] (jh S q1.2) _
  refine xo_2 rfl ?_
  refine xc_33 (i := 6) (q := 49) hS ly0 rfl (xc_P hS (by decide)) ?_
  refine xo_49 (st' := []) rfl rfl (xc_ly hS ly49) rfl (Nat.le_of_ble_eq_true rfl) ?_
  refine t_X5_spot hS ?_
  refine jw_mono (jw_bind h) (fun q2 h => ?_)
  show jx_Ex _ _ _ _ [.int q2.1] (jh S q2.2) _
  replace h := jw_some h
  exact xo_69 h
theorem t_X10_where {S : jS} (hS : jCok S) {d : Nat} {Q : Option Value → jx_H → Prop} {x1 : Int32} {σ : jT} (h : jw (f_X10_where x1 σ) (fun q => Q (some (.int q.1)) (jh S q.2))) : jx_Sp (d + 5) 162 [.ref 0, .int x1] (jh S σ) Q := by
  refine ⟨jm_i162, jm_at162, rfl, rfl, ?_⟩
  show jx_Ex _ jm_l162 jm_b162_0 [.ref 0, .int x1] [] _ _
  unfold f_X10_where at h
  refine xo_0 rfl ?_
  refine xo_57 (t := jm_b162_11) rfl (fun hc1 => ?_) (fun hc1 => ?_)
  · replace h := jw_pos hc1 h
    refine xo_8 ?_
    replace h := jw_some h
    exact xo_69 h
  · replace h := jw_neg hc1 h
    refine xo_0 rfl ?_
    refine xo_10 ?_
    refine xo_66 (t := jm_b162_13) rfl (fun hc2 => ?_) (fun hc2 => ?_)
    · replace h := jw_pos hc2 h
      refine xo_2 rfl ?_
      refine xc_33 (i := 3) (q := 12) hS ly0 rfl (xc_P hS (by decide)) ?_
      refine xo_49 (st' := []) rfl rfl (xc_ly hS ly12) rfl (Nat.le_of_ble_eq_true rfl) ?_
      refine t_X8_isMounted hS ?_
      refine jw_mono (jw_bind h) (fun q3 h => ?_)
      show jx_Ex _ _ _ _ [.int q3.1] (jh S q3.2) _
      refine xo_56 (t := jm_b162_40) rfl (fun hc4 => ?_) (fun hc4 => ?_)
      · replace h := jw_pos hc4 h
        refine xo_2 rfl ?_
        refine xc_33 (i := 6) (q := 49) hS ly0 rfl (xc_P hS (by decide)) ?_
        refine xo_49 (st' := []) rfl rfl (xc_ly hS ly49) rfl (Nat.le_of_ble_eq_true rfl) ?_
        refine t_X5_resume hS ?_
        refine jw_mono (jw_bind h) (fun q5 h => ?_)
        show jx_Ex _ _ _ _ [] (jh S q5.2) _
        refine xo_2 rfl ?_
        refine xc_33 (i := 6) (q := 49) hS ly0 rfl (xc_P hS (by decide)) ?_
        refine xo_0 rfl ?_
        refine xo_49 (st' := []) rfl rfl (xc_ly hS ly49) rfl (Nat.le_of_ble_eq_true rfl) ?_
        refine t_X5_go hS ?_
        refine jw_mono (jw_bind h) (fun q6 h => ?_)
        show jx_Ex _ _ _ _ [] (jh S q6.2) _
        refine xo_2 rfl ?_
        refine xc_33 (i := 5) (q := 47) hS ly0 rfl (xc_P hS (by decide)) ?_
        refine xo_2 rfl ?_
        refine xc_33 (i := 6) (q := 49) hS ly0 rfl (xc_P hS (by decide)) ?_
        refine xo_49 (st' := [.ref 47]) rfl rfl (xc_ly hS ly49) rfl (Nat.le_of_ble_eq_true rfl) ?_
        refine t_X5_taken hS ?_
        refine jw_mono (jw_bind h) (fun q7 h => ?_)
        show jx_Ex _ _ _ _ [.int q7.1, .ref 47] (jh S q7.2) _
        refine xo_2 rfl ?_
        refine xc_33 (i := 6) (q := 49) hS ly0 rfl (xc_P hS (by decide)) ?_
        refine xo_49 (st' := [.int q7.1, .ref 47]) rfl rfl (xc_ly hS ly49) rfl (Nat.le_of_ble_eq_true rfl) ?_
        refine t_X5_hasStopped hS ?_
        refine jw_mono (jw_bind h) (fun q8 h => ?_)
        show jx_Ex _ _ _ _ [.int q8.1, .int q7.1, .ref 47] (jh S q8.2) _
        refine xo_55 (t := jm_b162_80) rfl (fun hc9 => ?_) (fun hc9 => ?_)
        · replace h := jw_pos hc9 h
          refine xo_8 ?_
          exact t_X10_where_b81 hS h
        · replace h := jw_neg hc9 h
          refine xo_8 ?_
          refine xo_54 (t := jm_b162_81) rfl ?_
          exact t_X10_where_b81 hS h
      · replace h := jw_neg hc4 h
        refine xo_2 rfl ?_
        refine xc_33 (i := 5) (q := 47) hS ly0 rfl (xc_P hS (by decide)) ?_
        refine xo_8 ?_
        refine xo_8 ?_
        refine xo_49 (st' := []) rfl rfl (xc_ly hS ly47) rfl (Nat.le_of_ble_eq_true rfl) ?_
        refine t_X6_tell_ hS ?_
        refine jw_mono (jw_bind h) (fun q10 h => ?_)
        show jx_Ex _ _ _ _ [] (jh S q10.2) _
        refine xo_2 rfl ?_
        refine xc_33 (i := 3) (q := 12) hS ly0 rfl (xc_P hS (by decide)) ?_
        refine xo_49 (st' := []) rfl rfl (xc_ly hS ly12) rfl (Nat.le_of_ble_eq_true rfl) ?_
        refine t_X8_horse hS ?_
        refine jw_mono (jw_bind h) (fun q11 h => ?_)
        show jx_Ex _ _ _ _ [.int q11.1] (jh S q11.2) _
        replace h := jw_some h
        exact xo_69 h
    · replace h := jw_neg hc2 h
      refine xo_8 ?_
      replace h := jw_some h
      exact xo_69 h
/-- OfDifferentMinds.canRide, at ['x', 'int', 'int', 'int'] -/
def f_X10_canRide (x1 : Int32) (x2 : Int32) (x3 : Int32) (σ : jT) : Option (Int32 × jT) :=
  (f_X10_areTwo x1 x2 σ).bind fun q1 =>
  if q1.1 = 0 then
    some (0, q1.2)
  else
    (f_X3_hasPlace x3 q1.2).bind fun q3 =>
    if q3.1 = 0 then
      some (0, q3.2)
    else
      some (1, q3.2)
theorem t_X10_canRide {S : jS} (hS : jCok S) {d : Nat} {Q : Option Value → jx_H → Prop} {x1 : Int32} {x2 : Int32} {x3 : Int32} {σ : jT} (h : jw (f_X10_canRide x1 x2 x3 σ) (fun q => Q (some (.int q.1)) (jh S q.2))) : jx_Sp (d + 2) 163 [.ref 0, .int x1, .int x2, .int x3] (jh S σ) Q := by
  refine ⟨jm_i163, jm_at163, rfl, rfl, ?_⟩
  show jx_Ex _ jm_l163 jm_b163_0 [.ref 0, .int x1, .int x2, .int x3] [] _ _
  unfold f_X10_canRide at h
  refine xo_2 rfl ?_
  refine xo_0 rfl ?_
  refine xo_0 rfl ?_
  refine xo_49 (st' := []) rfl rfl (xc_ly hS ly0) rfl (Nat.le_of_ble_eq_true rfl) ?_
  refine t_X10_areTwo hS ?_
  refine jw_mono (jw_bind h) (fun q1 h => ?_)
  show jx_Ex _ _ _ _ [.int q1.1] (jh S q1.2) _
  refine xo_55 (t := jm_b163_24) rfl (fun hc2 => ?_) (fun hc2 => ?_)
  · replace h := jw_pos hc2 h
    refine xo_8 ?_
    replace h := jw_some h
    exact xo_70 (by decide) h
  · replace h := jw_neg hc2 h
    refine xo_2 rfl ?_
    refine xc_33 (i := 1) (q := 3) hS ly0 rfl (xc_P hS (by decide)) ?_
    refine xo_0 rfl ?_
    refine xo_49 (st' := []) rfl rfl (xc_ly hS ly3) rfl (Nat.le_of_ble_eq_true rfl) ?_
    refine t_X3_hasPlace hS ?_
    refine jw_mono (jw_bind h) (fun q3 h => ?_)
    show jx_Ex _ _ _ _ [.int q3.1] (jh S q3.2) _
    refine xo_55 (t := jm_b163_24) rfl (fun hc4 => ?_) (fun hc4 => ?_)
    · replace h := jw_pos hc4 h
      refine xo_8 ?_
      replace h := jw_some h
      exact xo_70 (by decide) h
    · replace h := jw_neg hc4 h
      refine xo_8 ?_
      refine xo_54 (t := jm_b163_25) rfl ?_
      replace h := jw_some h
      exact xo_70 (by decide) h
/-- Ride.goOut, at ['x.trial'] -/
def f_X5_goOut_b72 (s0 : Int32) (σ : jT) : Option (Int32 × jT) :=
  if s0 = 0 ∨ s0 = 1 then
  some (0, (gs σ 3148 s0))
  else none
def f_X5_goOut_b67 (σ : jT) : Option (Int32 × jT) :=
  f_X5_goOut_b72 1 σ
def f_X5_goOut_b22 (σ : jT) : Option (Int32 × jT) :=
  if ¬ (σ.1 3148) = 0 then
    f_X5_goOut_b67 σ
  else
    (f_X3_viewOf (σ.2 54 0) (σ.1 3144) σ).bind fun q2 =>
    (f_X3_viewOf (q2.2.2 54 1) (q2.2.1 3144) q2.2).bind fun q3 =>
    if ¬ q2.1 = q3.1 then
      f_X5_goOut_b72 0 q3.2
    else
      f_X5_goOut_b67 q3.2
def f_X5_goOut_b2 : Nat → Int32 → jT → Option (Int32 × jT)
  | 0, _, _ => none
  | n + 1, x1, σ =>
    if 200 ≤ x1 then
      f_X5_goOut_b22 σ
    else
      (f_X5_step σ).bind fun q2 =>
      if q2.1 = 0 then
        f_X5_goOut_b22 q2.2
      else
        f_X5_goOut_b2 n (x1 + 1) q2.2
def f_X5_goOut (σ : jT) : Option (Int32 × jT) :=
  f_X5_goOut_b2 1000 0 σ
theorem t_X5_goOut_b72 {S : jS} (hS : jCok S) {d : Nat} {Q : Option Value → jx_H → Prop} {s0 : Int32} {w0 : Value} {w1 : Value} {σ : jT} (h : jw (f_X5_goOut_b72 s0 σ) (fun q => Q none (jh S q.2))) : jx_Ex (d + 4) jm_l65 jm_b65_72 [w0, w1] [.int s0, .ref 49] (jh S σ) Q := by
  unfold f_X5_goOut_b72 at h
  obtain ⟨hz1, h⟩ := jw_chk h
  refine xc_35 (i := 3148) hS ly49 rfl ⟨Nat.le_of_ble_eq_true rfl, Nat.le_of_ble_eq_true rfl⟩ hz1 ?_
  replace h := jw_some h
  exact xo_71 h
theorem t_X5_goOut_b67 {S : jS} (hS : jCok S) {d : Nat} {Q : Option Value → jx_H → Prop} {w0 : Value} {w1 : Value} {σ : jT} (h : jw (f_X5_goOut_b67 σ) (fun q => Q none (jh S q.2))) : jx_Ex (d + 4) jm_l65 jm_b65_67 [w0, w1] [.ref 49] (jh S σ) Q := by
  unfold f_X5_goOut_b67 at h
  refine xo_8 ?_
  refine xo_54 (t := jm_b65_72) rfl ?_
  exact t_X5_goOut_b72 hS h
theorem t_X5_goOut_b22 {S : jS} (hS : jCok S) {d : Nat} {Q : Option Value → jx_H → Prop} {w1 : Value} {σ : jT} (h : jw (f_X5_goOut_b22 σ) (fun q => Q none (jh S q.2))) : jx_Ex (d + 4) jm_l65 jm_b65_22 [.ref 49, w1] [] (jh S σ) Q := by
  unfold f_X5_goOut_b22 at h
  refine xo_2 rfl ?_
  refine xo_2 rfl ?_
  refine xc_32 (i := 3148) (v := (σ.1 3148)) hS ly49 rfl ⟨Nat.le_of_ble_eq_true rfl, Nat.le_of_ble_eq_true rfl⟩ rfl ?_
  refine xo_56 (t := jm_b65_67) rfl (fun hc1 => ?_) (fun hc1 => ?_)
  · replace h := jw_pos hc1 h
    exact t_X5_goOut_b67 hS h
  · replace h := jw_neg hc1 h
    refine xo_2 rfl ?_
    refine xc_33 (i := 3136) (q := 3) hS ly49 rfl (xc_P hS (by decide)) ?_
    refine xo_2 rfl ?_
    refine xc_33 (i := 3143) (q := 54) hS ly49 rfl (xc_P hS (by decide)) ?_
    refine xo_8 ?_
    refine xc_38 (j := 0) (v := (σ.2 54 0)) hS ly54 ⟨Nat.le_of_ble_eq_true rfl, Nat.le_of_ble_eq_true rfl⟩ (by decide) (by decide) rfl ?_
    refine xo_2 rfl ?_
    refine xc_32 (i := 3144) (v := (σ.1 3144)) hS ly49 rfl ⟨Nat.le_of_ble_eq_true rfl, Nat.le_of_ble_eq_true rfl⟩ rfl ?_
    refine xo_49 (st' := [.ref 49]) rfl rfl (xc_ly hS ly3) rfl (Nat.le_of_ble_eq_true rfl) ?_
    refine t_X3_viewOf hS ?_
    refine jw_mono (jw_bind h) (fun q2 h => ?_)
    show jx_Ex _ _ _ _ [.int q2.1, .ref 49] (jh S q2.2) _
    refine xo_2 rfl ?_
    refine xc_33 (i := 3136) (q := 3) hS ly49 rfl (xc_P hS (by decide)) ?_
    refine xo_2 rfl ?_
    refine xc_33 (i := 3143) (q := 54) hS ly49 rfl (xc_P hS (by decide)) ?_
    refine xo_8 ?_
    refine xc_38 (j := 1) (v := (q2.2.2 54 1)) hS ly54 ⟨Nat.le_of_ble_eq_true rfl, Nat.le_of_ble_eq_true rfl⟩ (by decide) (by decide) rfl ?_
    refine xo_2 rfl ?_
    refine xc_32 (i := 3144) (v := (q2.2.1 3144)) hS ly49 rfl ⟨Nat.le_of_ble_eq_true rfl, Nat.le_of_ble_eq_true rfl⟩ rfl ?_
    refine xo_49 (st' := [.int q2.1, .ref 49]) rfl rfl (xc_ly hS ly3) rfl (Nat.le_of_ble_eq_true rfl) ?_
    refine t_X3_viewOf hS ?_
    refine jw_mono (jw_bind h) (fun q3 h => ?_)
    show jx_Ex _ _ _ _ [.int q3.1, .int q2.1, .ref 49] (jh S q3.2) _
    refine xo_62 (t := jm_b65_71) rfl (fun hc4 => ?_) (fun hc4 => ?_)
    · replace h := jw_pos hc4 h
      refine xo_8 ?_
      exact t_X5_goOut_b72 hS h
    · replace h := jw_neg hc4 h
      exact t_X5_goOut_b67 hS h
theorem t_X5_goOut_b2 {S : jS} (hS : jCok S) {d : Nat} {Q : Option Value → jx_H → Prop} : ∀ (n : Nat) {x1 : Int32} {σ : jT}, jw (f_X5_goOut_b2 n x1 σ) (fun q => Q none (jh S q.2)) → jx_Ex (d + 4) jm_l65 jm_b65_2 [.ref 49, .int x1] [] (jh S σ) Q := by
  intro n
  induction n with
  | zero => intro x1 σ h; exact jw_none h
  | succ n ih =>
    intro x1 σ h
    rw [f_X5_goOut_b2] at h
    refine xo_0 rfl ?_
    refine xo_10 ?_
    refine xo_64 (t := jm_b65_22) rfl (fun hc1 => ?_) (fun hc1 => ?_)
    · replace h := jw_pos hc1 h
      exact t_X5_goOut_b22 hS h
    · replace h := jw_neg hc1 h
      refine xo_2 rfl ?_
      refine xo_49 (st' := []) rfl rfl (xc_ly hS ly49) rfl (Nat.le_of_ble_eq_true rfl) ?_
      refine t_X5_step hS ?_
      refine jw_mono (jw_bind h) (fun q2 h => ?_)
      show jx_Ex _ _ _ _ [.int q2.1] (jh S q2.2) _
      refine xo_55 (t := jm_b65_22) rfl (fun hc3 => ?_) (fun hc3 => ?_)
      · replace h := jw_pos hc3 h
        exact t_X5_goOut_b22 hS h
      · replace h := jw_neg hc3 h
        refine xo_13 (ls' := [.ref 49, .int (x1 + 1)]) rfl rfl ?_
        refine xo_54 (t := jm_b65_2) rfl ?_
        exact ih h
theorem t_X5_goOut {S : jS} (hS : jCok S) {d : Nat} {Q : Option Value → jx_H → Prop} {σ : jT} (h : jw (f_X5_goOut σ) (fun q => Q none (jh S q.2))) : jx_Sp (d + 4) 65 [.ref 49] (jh S σ) Q := by
  refine ⟨jm_i65, jm_at65, rfl, rfl, ?_⟩
  show jx_Ex _ jm_l65 jm_b65_0 [.ref 49, .retAddr 0] [] _ _
  unfold f_X5_goOut at h
  refine xo_8 ?_
  refine xo_4 (ls' := [.ref 49, .int 0]) rfl ?_
  exact t_X5_goOut_b2 hS 1000 h
/-- Row.tell, at ['x.told', 'int'] -/
def f_X6_tell (x1 : Int32) (σ : jT) : Option (Int32 × jT) :=
  (f_X6_clear σ).bind fun q1 =>
  (f_X6_put x1 q1.2).bind fun q2 =>
  some (0, q2.2)
theorem t_X6_tell {S : jS} (hS : jCok S) {d : Nat} {Q : Option Value → jx_H → Prop} {x1 : Int32} {σ : jT} (h : jw (f_X6_tell x1 σ) (fun q => Q none (jh S q.2))) : jx_Sp (d + 1) 70 [.ref 47, .int x1] (jh S σ) Q := by
  refine ⟨jm_i70, jm_at70, rfl, rfl, ?_⟩
  show jx_Ex _ jm_l70 jm_b70_0 [.ref 47, .int x1] [] _ _
  unfold f_X6_tell at h
  refine xo_2 rfl ?_
  refine xo_49 (st' := []) rfl rfl (xc_ly hS ly47) rfl (Nat.le_of_ble_eq_true rfl) ?_
  refine t_X6_clear hS ?_
  refine jw_mono (jw_bind h) (fun q1 h => ?_)
  show jx_Ex _ _ _ _ [] (jh S q1.2) _
  refine xo_2 rfl ?_
  refine xo_0 rfl ?_
  refine xo_49 (st' := []) rfl rfl (xc_ly hS ly47) rfl (Nat.le_of_ble_eq_true rfl) ?_
  refine t_X6_put hS ?_
  refine jw_mono (jw_bind h) (fun q2 h => ?_)
  show jx_Ex _ _ _ _ [] (jh S q2.2) _
  replace h := jw_some h
  exact xo_71 h
/-- OfDifferentMinds.stops, at ['x', 'int', 'int', 'int'] -/
def f_X10_stops_b89 (s0 : Int32) (s1 : Int32) (σ : jT) : Option (Int32 × jT) :=
  (f_X5_latest σ).bind fun q1 =>
  (f_X6_tell__ s1 s0 q1.1 q1.2).bind fun q2 =>
  (f_X5_taken q2.2).bind fun q3 =>
  some (q3.1, q3.2)
def f_X10_stops (x1 : Int32) (x2 : Int32) (x3 : Int32) (σ : jT) : Option (Int32 × jT) :=
  (f_X10_canRide x1 x2 x3 σ).bind fun q1 =>
  if ¬ q1.1 = 0 then
    (f_X5_begin x1 x2 x3 q1.2).bind fun q3 =>
    (f_X5_goOut q3.2).bind fun q4 =>
    (f_X5_hasStopped q4.2).bind fun q5 =>
    if ¬ q5.1 = 0 then
      (f_X5_spot q5.2).bind fun q7 =>
      (f_X5_spot q7.2).bind fun q8 =>
      (f_X3_waysAt q8.1 q8.2).bind fun q9 =>
      if ¬ q9.1 = 0 then
        f_X10_stops_b89 1 q7.1 q9.2
      else
        f_X10_stops_b89 0 q7.1 q9.2
    else
      (f_X5_spot q5.2).bind fun q11 =>
      (f_X6_tell q11.1 q11.2).bind fun q12 =>
      some ((-2), q12.2)
  else
    some ((-1), q1.2)
theorem t_X10_stops_b89 {S : jS} (hS : jCok S) {d : Nat} {Q : Option Value → jx_H → Prop} {s0 : Int32} {s1 : Int32} {w1 : Value} {w2 : Value} {w3 : Value} {σ : jT} (h : jw (f_X10_stops_b89 s0 s1 σ) (fun q => Q (some (.int q.1)) (jh S q.2))) : jx_Ex (d + 5) jm_l164 jm_b164_89 [.ref 0, w1, w2, w3] [.int s0, .int s1, .ref 47] (jh S σ) Q := by
  unfold f_X10_stops_b89 at h
  refine xo_2 rfl ?_
  refine xc_33 (i := 6) (q := 49) hS ly0 rfl (xc_P hS (by decide)) ?_
  refine xo_49 (st' := [.int s0, .int s1, .ref 47]) rfl rfl (xc_ly hS ly49) rfl (Nat.le_of_ble_eq_true rfl) ?_
  refine t_X5_latest hS ?_
  refine jw_mono (jw_bind h) (fun q1 h => ?_)
  show jx_Ex _ _ _ _ [.int q1.1, .int s0, .int s1, .ref 47] (jh S q1.2) _
  refine xo_49 (st' := []) rfl rfl (xc_ly hS ly47) rfl (Nat.le_of_ble_eq_true rfl) ?_
  refine t_X6_tell__ hS ?_
  refine jw_mono (jw_bind h) (fun q2 h => ?_)
  show jx_Ex _ _ _ _ [] (jh S q2.2) _
  refine xo_2 rfl ?_
  refine xc_33 (i := 6) (q := 49) hS ly0 rfl (xc_P hS (by decide)) ?_
  refine xo_49 (st' := []) rfl rfl (xc_ly hS ly49) rfl (Nat.le_of_ble_eq_true rfl) ?_
  refine t_X5_taken hS ?_
  refine jw_mono (jw_bind h) (fun q3 h => ?_)
  show jx_Ex _ _ _ _ [.int q3.1] (jh S q3.2) _
  replace h := jw_some h
  exact xo_69 h
theorem t_X10_stops {S : jS} (hS : jCok S) {d : Nat} {Q : Option Value → jx_H → Prop} {x1 : Int32} {x2 : Int32} {x3 : Int32} {σ : jT} (h : jw (f_X10_stops x1 x2 x3 σ) (fun q => Q (some (.int q.1)) (jh S q.2))) : jx_Sp (d + 5) 164 [.ref 0, .int x1, .int x2, .int x3] (jh S σ) Q := by
  refine ⟨jm_i164, jm_at164, rfl, rfl, ?_⟩
  show jx_Ex _ jm_l164 jm_b164_0 [.ref 0, .int x1, .int x2, .int x3] [] _ _
  unfold f_X10_stops at h
  refine xo_2 rfl ?_
  refine xo_0 rfl ?_
  refine xo_0 rfl ?_
  refine xo_0 rfl ?_
  refine xo_49 (st' := []) rfl rfl (xc_ly hS ly0) rfl (Nat.le_of_ble_eq_true rfl) ?_
  refine t_X10_canRide hS ?_
  refine jw_mono (jw_bind h) (fun q1 h => ?_)
  show jx_Ex _ _ _ _ [.int q1.1] (jh S q1.2) _
  refine xo_56 (t := jm_b164_12) rfl (fun hc2 => ?_) (fun hc2 => ?_)
  · replace h := jw_pos hc2 h
    refine xo_2 rfl ?_
    refine xc_33 (i := 6) (q := 49) hS ly0 rfl (xc_P hS (by decide)) ?_
    refine xo_0 rfl ?_
    refine xo_0 rfl ?_
    refine xo_0 rfl ?_
    refine xo_49 (st' := []) rfl rfl (xc_ly hS ly49) rfl (Nat.le_of_ble_eq_true rfl) ?_
    refine t_X5_begin hS ?_
    refine jw_mono (jw_bind h) (fun q3 h => ?_)
    show jx_Ex _ _ _ _ [] (jh S q3.2) _
    refine xo_2 rfl ?_
    refine xc_33 (i := 6) (q := 49) hS ly0 rfl (xc_P hS (by decide)) ?_
    refine xo_49 (st' := []) rfl rfl (xc_ly hS ly49) rfl (Nat.le_of_ble_eq_true rfl) ?_
    refine t_X5_goOut hS ?_
    refine jw_mono (jw_bind h) (fun q4 h => ?_)
    show jx_Ex _ _ _ _ [] (jh S q4.2) _
    refine xo_2 rfl ?_
    refine xc_33 (i := 6) (q := 49) hS ly0 rfl (xc_P hS (by decide)) ?_
    refine xo_49 (st' := []) rfl rfl (xc_ly hS ly49) rfl (Nat.le_of_ble_eq_true rfl) ?_
    refine t_X5_hasStopped hS ?_
    refine jw_mono (jw_bind h) (fun q5 h => ?_)
    show jx_Ex _ _ _ _ [.int q5.1] (jh S q5.2) _
    refine xo_56 (t := jm_b164_56) rfl (fun hc6 => ?_) (fun hc6 => ?_)
    · replace h := jw_pos hc6 h
      refine xo_2 rfl ?_
      refine xc_33 (i := 5) (q := 47) hS ly0 rfl (xc_P hS (by decide)) ?_
      refine xo_2 rfl ?_
      refine xc_33 (i := 6) (q := 49) hS ly0 rfl (xc_P hS (by decide)) ?_
      refine xo_49 (st' := [.ref 47]) rfl rfl (xc_ly hS ly49) rfl (Nat.le_of_ble_eq_true rfl) ?_
      refine t_X5_spot hS ?_
      refine jw_mono (jw_bind h) (fun q7 h => ?_)
      show jx_Ex _ _ _ _ [.int q7.1, .ref 47] (jh S q7.2) _
      refine xo_2 rfl ?_
      refine xc_33 (i := 1) (q := 3) hS ly0 rfl (xc_P hS (by decide)) ?_
      refine xo_2 rfl ?_
      refine xc_33 (i := 6) (q := 49) hS ly0 rfl (xc_P hS (by decide)) ?_
      refine xo_49 (st' := [.ref 3, .int q7.1, .ref 47]) rfl rfl (xc_ly hS ly49) rfl (Nat.le_of_ble_eq_true rfl) ?_
      refine t_X5_spot hS ?_
      refine jw_mono (jw_bind h) (fun q8 h => ?_)
      show jx_Ex _ _ _ _ [.int q8.1, .ref 3, .int q7.1, .ref 47] (jh S q8.2) _
      refine xo_49 (st' := [.int q7.1, .ref 47]) rfl rfl (xc_ly hS ly3) rfl (Nat.le_of_ble_eq_true rfl) ?_
      refine t_X3_waysAt hS ?_
      refine jw_mono (jw_bind h) (fun q9 h => ?_)
      show jx_Ex _ _ _ _ [.int q9.1, .int q7.1, .ref 47] (jh S q9.2) _
      refine xo_56 (t := jm_b164_88) rfl (fun hc10 => ?_) (fun hc10 => ?_)
      · replace h := jw_pos hc10 h
        refine xo_8 ?_
        exact t_X10_stops_b89 hS h
      · replace h := jw_neg hc10 h
        refine xo_8 ?_
        refine xo_54 (t := jm_b164_89) rfl ?_
        exact t_X10_stops_b89 hS h
    · replace h := jw_neg hc6 h
      refine xo_2 rfl ?_
      refine xc_33 (i := 5) (q := 47) hS ly0 rfl (xc_P hS (by decide)) ?_
      refine xo_2 rfl ?_
      refine xc_33 (i := 6) (q := 49) hS ly0 rfl (xc_P hS (by decide)) ?_
      refine xo_49 (st' := [.ref 47]) rfl rfl (xc_ly hS ly49) rfl (Nat.le_of_ble_eq_true rfl) ?_
      refine t_X5_spot hS ?_
      refine jw_mono (jw_bind h) (fun q11 h => ?_)
      show jx_Ex _ _ _ _ [.int q11.1, .ref 47] (jh S q11.2) _
      refine xo_49 (st' := []) rfl rfl (xc_ly hS ly47) rfl (Nat.le_of_ble_eq_true rfl) ?_
      refine t_X6_tell hS ?_
      refine jw_mono (jw_bind h) (fun q12 h => ?_)
      show jx_Ex _ _ _ _ [] (jh S q12.2) _
      refine xo_9 ?_
      replace h := jw_some h
      exact xo_69 h
  · replace h := jw_neg hc2 h
    refine xo_8 ?_
    replace h := jw_some h
    exact xo_69 h
/-- OfDifferentMinds.tellVisits, at ['x'] -/
def f_X10_tellVisits_b64 (k9 : Int32 → Int32 → Int32 → Int32 → jT → Option (Int32 × jT)) (x1 : Int32) (x2 : Int32) (x3 : Int32) (x4 : Int32) (σ : jT) : Option (Int32 × jT) :=
  k9 x1 x2 x3 (x4 + 1) σ
def f_X10_tellVisits_b40 (k9 : Int32 → Int32 → Int32 → Int32 → jT → Option (Int32 × jT)) (x2 : Int32) (x3 : Int32) (x4 : Int32) (s0 : Int32) (s1 : Int32) (σ : jT) : Option (Int32 × jT) :=
  if jx_in x4 10 then
  if (σ.2 64 x4.toNatClampNeg) ≤ x2 then
    f_X10_tellVisits_b64 k9 (s1 ||| s0) x2 x3 x4 σ
  else
    f_X10_tellVisits_b64 k9 (s1 ||| s0) (σ.2 64 x4.toNatClampNeg) x4 x4 σ
  else none
def f_X10_tellVisits_b9 : Nat → Int32 → Int32 → Int32 → Int32 → jT → Option (Int32 × jT)
  | 0, _, _, _, _, _ => none
  | n + 1, x1, x2, x3, x4, σ =>
    (f_X3_places σ).bind fun q1 =>
    if q1.1 ≤ x4 then
      (f_X5_taken q1.2).bind fun q3 =>
      (f_X6_tell__ q3.1 x2 x3 q3.2).bind fun q4 =>
      some (x1, q4.2)
    else
      if jx_in x4 10 then
      if (q1.2.2 64 x4.toNatClampNeg) ≤ 0 then
        f_X10_tellVisits_b40 (f_X10_tellVisits_b9 n) x2 x3 x4 0 x1 q1.2
      else
        f_X10_tellVisits_b40 (f_X10_tellVisits_b9 n) x2 x3 x4 (1 <<< (x4 &&& 31)) x1 q1.2
      else none
def f_X10_tellVisits (σ : jT) : Option (Int32 × jT) :=
  f_X10_tellVisits_b9 1000 0 0 (-1) 0 σ
theorem t_X10_tellVisits_b64 {S : jS} (hS : jCok S) {d : Nat} {Q : Option Value → jx_H → Prop} {k9 : Int32 → Int32 → Int32 → Int32 → jT → Option (Int32 × jT)} (hk9 : ∀ {x1 : Int32} {x2 : Int32} {x3 : Int32} {x4 : Int32} {σ : jT}, jw (k9 x1 x2 x3 x4 σ) (fun q => Q (some (.int q.1)) (jh S q.2)) → jx_Ex (d + 2) jm_l166 jm_b166_9 [.ref 0, .int x1, .int x2, .int x3, .int x4] [] (jh S σ) Q) {x1 : Int32} {x2 : Int32} {x3 : Int32} {x4 : Int32} {σ : jT} (h : jw (f_X10_tellVisits_b64 k9 x1 x2 x3 x4 σ) (fun q => Q (some (.int q.1)) (jh S q.2))) : jx_Ex (d + 2) jm_l166 jm_b166_64 [.ref 0, .int x1, .int x2, .int x3, .int x4] [] (jh S σ) Q := by
  unfold f_X10_tellVisits_b64 at h
  refine xo_13 (ls' := [.ref 0, .int x1, .int x2, .int x3, .int (x4 + 1)]) rfl rfl ?_
  refine xo_54 (t := jm_b166_9) rfl ?_
  exact hk9 h
theorem t_X10_tellVisits_b40 {S : jS} (hS : jCok S) {d : Nat} {Q : Option Value → jx_H → Prop} {k9 : Int32 → Int32 → Int32 → Int32 → jT → Option (Int32 × jT)} (hk9 : ∀ {x1 : Int32} {x2 : Int32} {x3 : Int32} {x4 : Int32} {σ : jT}, jw (k9 x1 x2 x3 x4 σ) (fun q => Q (some (.int q.1)) (jh S q.2)) → jx_Ex (d + 2) jm_l166 jm_b166_9 [.ref 0, .int x1, .int x2, .int x3, .int x4] [] (jh S σ) Q) {x2 : Int32} {x3 : Int32} {x4 : Int32} {s0 : Int32} {s1 : Int32} {w1 : Value} {σ : jT} (h : jw (f_X10_tellVisits_b40 k9 x2 x3 x4 s0 s1 σ) (fun q => Q (some (.int q.1)) (jh S q.2))) : jx_Ex (d + 2) jm_l166 jm_b166_40 [.ref 0, w1, .int x2, .int x3, .int x4] [.int s0, .int s1] (jh S σ) Q := by
  unfold f_X10_tellVisits_b40 at h
  refine xo_21 ?_
  refine xo_4 (ls' := [.ref 0, .int (s1 ||| s0), .int x2, .int x3, .int x4]) rfl ?_
  refine xo_2 rfl ?_
  refine xc_33 (i := 11) (q := 64) hS ly0 rfl (xc_P hS (by decide)) ?_
  refine xo_1 rfl ?_
  obtain ⟨hi1, h⟩ := jw_chk h
  refine xc_38 (j := x4.toNatClampNeg) (v := (σ.2 64 x4.toNatClampNeg)) hS ly64 ⟨Nat.le_of_ble_eq_true rfl, Nat.le_of_ble_eq_true rfl⟩ hi1 rfl rfl ?_
  refine xo_0 rfl ?_
  refine xo_66 (t := jm_b166_64) rfl (fun hc2 => ?_) (fun hc2 => ?_)
  · replace h := jw_pos hc2 h
    exact t_X10_tellVisits_b64 hS hk9 h
  · replace h := jw_neg hc2 h
    refine xo_2 rfl ?_
    refine xc_33 (i := 11) (q := 64) hS ly0 rfl (xc_P hS (by decide)) ?_
    refine xo_1 rfl ?_
    refine xc_38 (j := x4.toNatClampNeg) (v := (σ.2 64 x4.toNatClampNeg)) hS ly64 ⟨Nat.le_of_ble_eq_true rfl, Nat.le_of_ble_eq_true rfl⟩ hi1 rfl rfl ?_
    refine xo_4 (ls' := [.ref 0, .int (s1 ||| s0), .int (σ.2 64 x4.toNatClampNeg), .int x3, .int x4]) rfl ?_
    refine xo_1 rfl ?_
    refine xo_4 (ls' := [.ref 0, .int (s1 ||| s0), .int (σ.2 64 x4.toNatClampNeg), .int x4, .int x4]) rfl ?_
    exact t_X10_tellVisits_b64 hS hk9 h
theorem t_X10_tellVisits_b9 {S : jS} (hS : jCok S) {d : Nat} {Q : Option Value → jx_H → Prop} : ∀ (n : Nat) {x1 : Int32} {x2 : Int32} {x3 : Int32} {x4 : Int32} {σ : jT}, jw (f_X10_tellVisits_b9 n x1 x2 x3 x4 σ) (fun q => Q (some (.int q.1)) (jh S q.2)) → jx_Ex (d + 2) jm_l166 jm_b166_9 [.ref 0, .int x1, .int x2, .int x3, .int x4] [] (jh S σ) Q := by
  intro n
  induction n with
  | zero => intro x1 x2 x3 x4 σ h; exact jw_none h
  | succ n ih =>
    intro x1 x2 x3 x4 σ h
    rw [f_X10_tellVisits_b9] at h
    refine xo_1 rfl ?_
    refine xo_2 rfl ?_
    refine xc_33 (i := 1) (q := 3) hS ly0 rfl (xc_P hS (by decide)) ?_
    refine xo_49 (st' := [.int x4]) rfl rfl (xc_ly hS ly3) rfl (Nat.le_of_ble_eq_true rfl) ?_
    refine t_X3_places hS ?_
    refine jw_mono (jw_bind h) (fun q1 h => ?_)
    show jx_Ex _ _ _ _ [.int q1.1, .int x4] (jh S q1.2) _
    refine xo_64 (t := jm_b166_70) rfl (fun hc2 => ?_) (fun hc2 => ?_)
    · replace h := jw_pos hc2 h
      refine xo_2 rfl ?_
      refine xc_33 (i := 5) (q := 47) hS ly0 rfl (xc_P hS (by decide)) ?_
      refine xo_2 rfl ?_
      refine xc_33 (i := 6) (q := 49) hS ly0 rfl (xc_P hS (by decide)) ?_
      refine xo_49 (st' := [.ref 47]) rfl rfl (xc_ly hS ly49) rfl (Nat.le_of_ble_eq_true rfl) ?_
      refine t_X5_taken hS ?_
      refine jw_mono (jw_bind h) (fun q3 h => ?_)
      show jx_Ex _ _ _ _ [.int q3.1, .ref 47] (jh S q3.2) _
      refine xo_0 rfl ?_
      refine xo_0 rfl ?_
      refine xo_49 (st' := []) rfl rfl (xc_ly hS ly47) rfl (Nat.le_of_ble_eq_true rfl) ?_
      refine t_X6_tell__ hS ?_
      refine jw_mono (jw_bind h) (fun q4 h => ?_)
      show jx_Ex _ _ _ _ [] (jh S q4.2) _
      refine xo_0 rfl ?_
      replace h := jw_some h
      exact xo_69 h
    · replace h := jw_neg hc2 h
      refine xo_0 rfl ?_
      refine xo_2 rfl ?_
      refine xc_33 (i := 11) (q := 64) hS ly0 rfl (xc_P hS (by decide)) ?_
      refine xo_1 rfl ?_
      obtain ⟨hi5, h⟩ := jw_chk h
      refine xc_38 (j := x4.toNatClampNeg) (v := (q1.2.2 64 x4.toNatClampNeg)) hS ly64 ⟨Nat.le_of_ble_eq_true rfl, Nat.le_of_ble_eq_true rfl⟩ hi5 rfl rfl ?_
      refine xo_60 (t := jm_b166_39) rfl (fun hc6 => ?_) (fun hc6 => ?_)
      · replace h := jw_pos hc6 h
        refine xo_8 ?_
        exact t_X10_tellVisits_b40 hS ih h
      · replace h := jw_neg hc6 h
        refine xo_8 ?_
        refine xo_1 rfl ?_
        refine xo_23 ?_
        refine xo_54 (t := jm_b166_40) rfl ?_
        exact t_X10_tellVisits_b40 hS ih h
theorem t_X10_tellVisits {S : jS} (hS : jCok S) {d : Nat} {Q : Option Value → jx_H → Prop} {σ : jT} (h : jw (f_X10_tellVisits σ) (fun q => Q (some (.int q.1)) (jh S q.2))) : jx_Sp (d + 2) 166 [.ref 0] (jh S σ) Q := by
  refine ⟨jm_i166, jm_at166, rfl, rfl, ?_⟩
  show jx_Ex _ jm_l166 jm_b166_0 [.ref 0, .retAddr 0, .retAddr 0, .retAddr 0, .retAddr 0] [] _ _
  unfold f_X10_tellVisits at h
  refine xo_8 ?_
  refine xo_4 (ls' := [.ref 0, .int 0, .retAddr 0, .retAddr 0, .retAddr 0]) rfl ?_
  refine xo_8 ?_
  refine xo_4 (ls' := [.ref 0, .int 0, .int 0, .retAddr 0, .retAddr 0]) rfl ?_
  refine xo_8 ?_
  refine xo_4 (ls' := [.ref 0, .int 0, .int 0, .int (-1), .retAddr 0]) rfl ?_
  refine xo_8 ?_
  refine xo_5 (ls' := [.ref 0, .int 0, .int 0, .int (-1), .int 0]) rfl ?_
  exact t_X10_tellVisits_b9 hS 1000 h
/-- OfDifferentMinds.trail, at ['x', 'int', 'int', 'int'] -/
def f_X10_trail_b113 (σ : jT) : Option (Int32 × jT) :=
  (f_X10_tellVisits σ).bind fun q1 =>
  some (q1.1, q1.2)
def f_X10_trail_b107 (k56 : Int32 → jT → Option (Int32 × jT)) (x4 : Int32) (σ : jT) : Option (Int32 × jT) :=
  k56 (x4 + 1) σ
def f_X10_trail_b56 : Nat → Int32 → jT → Option (Int32 × jT)
  | 0, _, _ => none
  | n + 1, x4, σ =>
    if 200 ≤ x4 then
      f_X10_trail_b113 σ
    else
      (f_X5_step σ).bind fun q2 =>
      if q2.1 = 0 then
        f_X10_trail_b113 q2.2
      else
        (f_X5_spot q2.2).bind fun q4 =>
        (f_X3_hasPlace q4.1 q4.2).bind fun q5 =>
        if q5.1 = 0 then
          f_X10_trail_b107 (f_X10_trail_b56 n) x4 q5.2
        else
          (f_X5_spot q5.2).bind fun q7 =>
          if jx_in q7.1 10 then
          f_X10_trail_b107 (f_X10_trail_b56 n) x4 (gA q7.2 64 q7.1.toNatClampNeg ((q7.2.2 64 q7.1.toNatClampNeg) + 1))
          else none
def f_X10_trail_b15 : Nat → Int32 → Int32 → Int32 → Int32 → jT → Option (Int32 × jT)
  | 0, _, _, _, _, _ => none
  | n + 1, x1, x2, x3, x4, σ =>
    if 10 ≤ x4 then
      (f_X5_begin x1 x2 x3 σ).bind fun q2 =>
      if jx_in x3 10 then
      f_X10_trail_b56 1000 0 (gA q2.2 64 x3.toNatClampNeg 1)
      else none
    else
      if jx_in x4 10 then
      f_X10_trail_b15 n x1 x2 x3 (x4 + 1) (gA σ 64 x4.toNatClampNeg 0)
      else none
def f_X10_trail (x1 : Int32) (x2 : Int32) (x3 : Int32) (σ : jT) : Option (Int32 × jT) :=
  (f_X10_canRide x1 x2 x3 σ).bind fun q1 =>
  if ¬ q1.1 = 0 then
    f_X10_trail_b15 1000 x1 x2 x3 0 q1.2
  else
    some ((-1), q1.2)
theorem t_X10_trail_b113 {S : jS} (hS : jCok S) {d : Nat} {Q : Option Value → jx_H → Prop} {w1 : Value} {w2 : Value} {w3 : Value} {w4 : Value} {σ : jT} (h : jw (f_X10_trail_b113 σ) (fun q => Q (some (.int q.1)) (jh S q.2))) : jx_Ex (d + 4) jm_l165 jm_b165_113 [.ref 0, w1, w2, w3, w4] [] (jh S σ) Q := by
  unfold f_X10_trail_b113 at h
  refine xo_2 rfl ?_
  refine xo_49 (st' := []) rfl rfl (xc_ly hS ly0) rfl (Nat.le_of_ble_eq_true rfl) ?_
  refine t_X10_tellVisits hS ?_
  refine jw_mono (jw_bind h) (fun q1 h => ?_)
  show jx_Ex _ _ _ _ [.int q1.1] (jh S q1.2) _
  replace h := jw_some h
  exact xo_69 h
theorem t_X10_trail_b107 {S : jS} (hS : jCok S) {d : Nat} {Q : Option Value → jx_H → Prop} {k56 : Int32 → jT → Option (Int32 × jT)} (hk56 : ∀ {x4 : Int32} {w1 : Value} {w2 : Value} {w3 : Value} {σ : jT}, jw (k56 x4 σ) (fun q => Q (some (.int q.1)) (jh S q.2)) → jx_Ex (d + 4) jm_l165 jm_b165_56 [.ref 0, w1, w2, w3, .int x4] [] (jh S σ) Q) {x4 : Int32} {w1 : Value} {w2 : Value} {w3 : Value} {σ : jT} (h : jw (f_X10_trail_b107 k56 x4 σ) (fun q => Q (some (.int q.1)) (jh S q.2))) : jx_Ex (d + 4) jm_l165 jm_b165_107 [.ref 0, w1, w2, w3, .int x4] [] (jh S σ) Q := by
  unfold f_X10_trail_b107 at h
  refine xo_13 (ls' := [.ref 0, w1, w2, w3, .int (x4 + 1)]) rfl rfl ?_
  refine xo_54 (t := jm_b165_56) rfl ?_
  exact hk56 h
theorem t_X10_trail_b56 {S : jS} (hS : jCok S) {d : Nat} {Q : Option Value → jx_H → Prop} : ∀ (n : Nat) {x4 : Int32} {w1 : Value} {w2 : Value} {w3 : Value} {σ : jT}, jw (f_X10_trail_b56 n x4 σ) (fun q => Q (some (.int q.1)) (jh S q.2)) → jx_Ex (d + 4) jm_l165 jm_b165_56 [.ref 0, w1, w2, w3, .int x4] [] (jh S σ) Q := by
  intro n
  induction n with
  | zero => intro x4 w1 w2 w3 σ h; exact jw_none h
  | succ n ih =>
    intro x4 w1 w2 w3 σ h
    rw [f_X10_trail_b56] at h
    refine xo_1 rfl ?_
    refine xo_10 ?_
    refine xo_64 (t := jm_b165_113) rfl (fun hc1 => ?_) (fun hc1 => ?_)
    · replace h := jw_pos hc1 h
      exact t_X10_trail_b113 hS h
    · replace h := jw_neg hc1 h
      refine xo_2 rfl ?_
      refine xc_33 (i := 6) (q := 49) hS ly0 rfl (xc_P hS (by decide)) ?_
      refine xo_49 (st' := []) rfl rfl (xc_ly hS ly49) rfl (Nat.le_of_ble_eq_true rfl) ?_
      refine t_X5_step hS ?_
      refine jw_mono (jw_bind h) (fun q2 h => ?_)
      show jx_Ex _ _ _ _ [.int q2.1] (jh S q2.2) _
      refine xo_55 (t := jm_b165_113) rfl (fun hc3 => ?_) (fun hc3 => ?_)
      · replace h := jw_pos hc3 h
        exact t_X10_trail_b113 hS h
      · replace h := jw_neg hc3 h
        refine xo_2 rfl ?_
        refine xc_33 (i := 1) (q := 3) hS ly0 rfl (xc_P hS (by decide)) ?_
        refine xo_2 rfl ?_
        refine xc_33 (i := 6) (q := 49) hS ly0 rfl (xc_P hS (by decide)) ?_
        refine xo_49 (st' := [.ref 3]) rfl rfl (xc_ly hS ly49) rfl (Nat.le_of_ble_eq_true rfl) ?_
        refine t_X5_spot hS ?_
        refine jw_mono (jw_bind h) (fun q4 h => ?_)
        show jx_Ex _ _ _ _ [.int q4.1, .ref 3] (jh S q4.2) _
        refine xo_49 (st' := []) rfl rfl (xc_ly hS ly3) rfl (Nat.le_of_ble_eq_true rfl) ?_
        refine t_X3_hasPlace hS ?_
        refine jw_mono (jw_bind h) (fun q5 h => ?_)
        show jx_Ex _ _ _ _ [.int q5.1] (jh S q5.2) _
        refine xo_55 (t := jm_b165_107) rfl (fun hc6 => ?_) (fun hc6 => ?_)
        · replace h := jw_pos hc6 h
          exact t_X10_trail_b107 hS ih h
        · replace h := jw_neg hc6 h
          refine xo_2 rfl ?_
          refine xc_33 (i := 11) (q := 64) hS ly0 rfl (xc_P hS (by decide)) ?_
          refine xo_2 rfl ?_
          refine xc_33 (i := 6) (q := 49) hS ly0 rfl (xc_P hS (by decide)) ?_
          refine xo_49 (st' := [.ref 64]) rfl rfl (xc_ly hS ly49) rfl (Nat.le_of_ble_eq_true rfl) ?_
          refine t_X5_spot hS ?_
          refine jw_mono (jw_bind h) (fun q7 h => ?_)
          show jx_Ex _ _ _ _ [.int q7.1, .ref 64] (jh S q7.2) _
          refine xo_29 ?_
          obtain ⟨hi8, h⟩ := jw_chk h
          refine xc_38 (j := q7.1.toNatClampNeg) (v := (q7.2.2 64 q7.1.toNatClampNeg)) hS ly64 ⟨Nat.le_of_ble_eq_true rfl, Nat.le_of_ble_eq_true rfl⟩ hi8 rfl rfl ?_
          refine xo_8 ?_
          refine xo_14 ?_
          refine xc_41 (j := q7.1.toNatClampNeg) hS ly64 ⟨Nat.le_of_ble_eq_true rfl, Nat.le_of_ble_eq_true rfl⟩ hi8 rfl ?_
          exact t_X10_trail_b107 hS ih h
theorem t_X10_trail_b15 {S : jS} (hS : jCok S) {d : Nat} {Q : Option Value → jx_H → Prop} : ∀ (n : Nat) {x1 : Int32} {x2 : Int32} {x3 : Int32} {x4 : Int32} {σ : jT}, jw (f_X10_trail_b15 n x1 x2 x3 x4 σ) (fun q => Q (some (.int q.1)) (jh S q.2)) → jx_Ex (d + 4) jm_l165 jm_b165_15 [.ref 0, .int x1, .int x2, .int x3, .int x4] [] (jh S σ) Q := by
  intro n
  induction n with
  | zero => intro x1 x2 x3 x4 σ h; exact jw_none h
  | succ n ih =>
    intro x1 x2 x3 x4 σ h
    rw [f_X10_trail_b15] at h
    refine xo_1 rfl ?_
    refine xo_9 ?_
    refine xo_64 (t := jm_b165_36) rfl (fun hc1 => ?_) (fun hc1 => ?_)
    · replace h := jw_pos hc1 h
      refine xo_2 rfl ?_
      refine xc_33 (i := 6) (q := 49) hS ly0 rfl (xc_P hS (by decide)) ?_
      refine xo_0 rfl ?_
      refine xo_0 rfl ?_
      refine xo_0 rfl ?_
      refine xo_49 (st' := []) rfl rfl (xc_ly hS ly49) rfl (Nat.le_of_ble_eq_true rfl) ?_
      refine t_X5_begin hS ?_
      refine jw_mono (jw_bind h) (fun q2 h => ?_)
      show jx_Ex _ _ _ _ [] (jh S q2.2) _
      refine xo_2 rfl ?_
      refine xc_33 (i := 11) (q := 64) hS ly0 rfl (xc_P hS (by decide)) ?_
      refine xo_0 rfl ?_
      refine xo_8 ?_
      obtain ⟨hi3, h⟩ := jw_chk h
      refine xc_41 (j := x3.toNatClampNeg) hS ly64 ⟨Nat.le_of_ble_eq_true rfl, Nat.le_of_ble_eq_true rfl⟩ hi3 rfl ?_
      refine xo_8 ?_
      refine xo_5 (ls' := [.ref 0, .int x1, .int x2, .int x3, .int 0]) rfl ?_
      exact t_X10_trail_b56 hS 1000 h
    · replace h := jw_neg hc1 h
      refine xo_2 rfl ?_
      refine xc_33 (i := 11) (q := 64) hS ly0 rfl (xc_P hS (by decide)) ?_
      refine xo_1 rfl ?_
      refine xo_8 ?_
      obtain ⟨hi4, h⟩ := jw_chk h
      refine xc_41 (j := x4.toNatClampNeg) hS ly64 ⟨Nat.le_of_ble_eq_true rfl, Nat.le_of_ble_eq_true rfl⟩ hi4 rfl ?_
      refine xo_13 (ls' := [.ref 0, .int x1, .int x2, .int x3, .int (x4 + 1)]) rfl rfl ?_
      refine xo_54 (t := jm_b165_15) rfl ?_
      exact ih h
theorem t_X10_trail {S : jS} (hS : jCok S) {d : Nat} {Q : Option Value → jx_H → Prop} {x1 : Int32} {x2 : Int32} {x3 : Int32} {σ : jT} (h : jw (f_X10_trail x1 x2 x3 σ) (fun q => Q (some (.int q.1)) (jh S q.2))) : jx_Sp (d + 4) 165 [.ref 0, .int x1, .int x2, .int x3] (jh S σ) Q := by
  refine ⟨jm_i165, jm_at165, rfl, rfl, ?_⟩
  show jx_Ex _ jm_l165 jm_b165_0 [.ref 0, .int x1, .int x2, .int x3, .retAddr 0] [] _ _
  unfold f_X10_trail at h
  refine xo_2 rfl ?_
  refine xo_0 rfl ?_
  refine xo_0 rfl ?_
  refine xo_0 rfl ?_
  refine xo_49 (st' := []) rfl rfl (xc_ly hS ly0) rfl (Nat.le_of_ble_eq_true rfl) ?_
  refine t_X10_canRide hS ?_
  refine jw_mono (jw_bind h) (fun q1 h => ?_)
  show jx_Ex _ _ _ _ [.int q1.1] (jh S q1.2) _
  refine xo_56 (t := jm_b165_12) rfl (fun hc2 => ?_) (fun hc2 => ?_)
  · replace h := jw_pos hc2 h
    refine xo_8 ?_
    refine xo_5 (ls' := [.ref 0, .int x1, .int x2, .int x3, .int 0]) rfl ?_
    exact t_X10_trail_b15 hS 1000 h
  · replace h := jw_neg hc2 h
    refine xo_8 ?_
    replace h := jw_some h
    exact xo_69 h
/-- Ride.comesTo, at ['x.trial', 'int'] -/
def f_X5_comesTo_b33 (x1 : Int32) (σ : jT) : Option (Int32 × jT) :=
  if ¬ (σ.1 3144) = x1 then
    some (0, σ)
  else
    some (1, σ)
def f_X5_comesTo_b5 : Nat → Int32 → Int32 → jT → Option (Int32 × jT)
  | 0, _, _, _ => none
  | n + 1, x1, x2, σ =>
    if 200 ≤ x2 then
      f_X5_comesTo_b33 x1 σ
    else
      if (σ.1 3144) = x1 then
        f_X5_comesTo_b33 x1 σ
      else
        (f_X5_step σ).bind fun q3 =>
        if q3.1 = 0 then
          f_X5_comesTo_b33 x1 q3.2
        else
          f_X5_comesTo_b5 n x1 (x2 + 1) q3.2
def f_X5_comesTo (x1 : Int32) (σ : jT) : Option (Int32 × jT) :=
  f_X5_comesTo_b5 1000 x1 (σ.1 3146) σ
theorem t_X5_comesTo_b33 {S : jS} (hS : jCok S) {d : Nat} {Q : Option Value → jx_H → Prop} {x1 : Int32} {w2 : Value} {σ : jT} (h : jw (f_X5_comesTo_b33 x1 σ) (fun q => Q (some (.int q.1)) (jh S q.2))) : jx_Ex (d + 4) jm_l66 jm_b66_33 [.ref 49, .int x1, w2] [] (jh S σ) Q := by
  unfold f_X5_comesTo_b33 at h
  refine xo_2 rfl ?_
  refine xc_32 (i := 3144) (v := (σ.1 3144)) hS ly49 rfl ⟨Nat.le_of_ble_eq_true rfl, Nat.le_of_ble_eq_true rfl⟩ rfl ?_
  refine xo_0 rfl ?_
  refine xo_62 (t := jm_b66_45) rfl (fun hc1 => ?_) (fun hc1 => ?_)
  · replace h := jw_pos hc1 h
    refine xo_8 ?_
    replace h := jw_some h
    exact xo_70 (by decide) h
  · replace h := jw_neg hc1 h
    refine xo_8 ?_
    refine xo_54 (t := jm_b66_46) rfl ?_
    replace h := jw_some h
    exact xo_70 (by decide) h
theorem t_X5_comesTo_b5 {S : jS} (hS : jCok S) {d : Nat} {Q : Option Value → jx_H → Prop} : ∀ (n : Nat) {x1 : Int32} {x2 : Int32} {σ : jT}, jw (f_X5_comesTo_b5 n x1 x2 σ) (fun q => Q (some (.int q.1)) (jh S q.2)) → jx_Ex (d + 4) jm_l66 jm_b66_5 [.ref 49, .int x1, .int x2] [] (jh S σ) Q := by
  intro n
  induction n with
  | zero => intro x1 x2 σ h; exact jw_none h
  | succ n ih =>
    intro x1 x2 σ h
    rw [f_X5_comesTo_b5] at h
    refine xo_0 rfl ?_
    refine xo_10 ?_
    refine xo_64 (t := jm_b66_33) rfl (fun hc1 => ?_) (fun hc1 => ?_)
    · replace h := jw_pos hc1 h
      exact t_X5_comesTo_b33 hS h
    · replace h := jw_neg hc1 h
      refine xo_2 rfl ?_
      refine xc_32 (i := 3144) (v := (σ.1 3144)) hS ly49 rfl ⟨Nat.le_of_ble_eq_true rfl, Nat.le_of_ble_eq_true rfl⟩ rfl ?_
      refine xo_0 rfl ?_
      refine xo_61 (t := jm_b66_33) rfl (fun hc2 => ?_) (fun hc2 => ?_)
      · replace h := jw_pos hc2 h
        exact t_X5_comesTo_b33 hS h
      · replace h := jw_neg hc2 h
        refine xo_2 rfl ?_
        refine xo_49 (st' := []) rfl rfl (xc_ly hS ly49) rfl (Nat.le_of_ble_eq_true rfl) ?_
        refine t_X5_step hS ?_
        refine jw_mono (jw_bind h) (fun q3 h => ?_)
        show jx_Ex _ _ _ _ [.int q3.1] (jh S q3.2) _
        refine xo_55 (t := jm_b66_33) rfl (fun hc4 => ?_) (fun hc4 => ?_)
        · replace h := jw_pos hc4 h
          exact t_X5_comesTo_b33 hS h
        · replace h := jw_neg hc4 h
          refine xo_13 (ls' := [.ref 49, .int x1, .int (x2 + 1)]) rfl rfl ?_
          refine xo_54 (t := jm_b66_5) rfl ?_
          exact ih h
theorem t_X5_comesTo {S : jS} (hS : jCok S) {d : Nat} {Q : Option Value → jx_H → Prop} {x1 : Int32} {σ : jT} (h : jw (f_X5_comesTo x1 σ) (fun q => Q (some (.int q.1)) (jh S q.2))) : jx_Sp (d + 4) 66 [.ref 49, .int x1] (jh S σ) Q := by
  refine ⟨jm_i66, jm_at66, rfl, rfl, ?_⟩
  show jx_Ex _ jm_l66 jm_b66_0 [.ref 49, .int x1, .retAddr 0] [] _ _
  unfold f_X5_comesTo at h
  refine xo_2 rfl ?_
  refine xc_32 (i := 3146) (v := (σ.1 3146)) hS ly49 rfl ⟨Nat.le_of_ble_eq_true rfl, Nat.le_of_ble_eq_true rfl⟩ rfl ?_
  refine xo_4 (ls' := [.ref 49, .int x1, .int (σ.1 3146)]) rfl ?_
  exact t_X5_comesTo_b5 hS 1000 h
/-- OfDifferentMinds.reaches, at ['x', 'int', 'int', 'int', 'int'] -/
def f_X10_reaches (x1 : Int32) (x2 : Int32) (x3 : Int32) (x4 : Int32) (σ : jT) : Option (Int32 × jT) :=
  (f_X10_canRide x1 x2 x3 σ).bind fun q1 =>
  if q1.1 = 0 then
    some ((-1), q1.2)
  else
    (f_X3_hasPlace x4 q1.2).bind fun q3 =>
    if ¬ q3.1 = 0 then
      (f_X5_begin x1 x2 x3 q3.2).bind fun q5 =>
      (f_X5_comesTo x4 q5.2).bind fun q6 =>
      if q6.1 = 0 then
        some ((-2), q6.2)
      else
        (f_X5_taken q6.2).bind fun q8 =>
        some (q8.1, q8.2)
    else
      some ((-1), q3.2)
theorem t_X10_reaches {S : jS} (hS : jCok S) {d : Nat} {Q : Option Value → jx_H → Prop} {x1 : Int32} {x2 : Int32} {x3 : Int32} {x4 : Int32} {σ : jT} (h : jw (f_X10_reaches x1 x2 x3 x4 σ) (fun q => Q (some (.int q.1)) (jh S q.2))) : jx_Sp (d + 5) 167 [.ref 0, .int x1, .int x2, .int x3, .int x4] (jh S σ) Q := by
  refine ⟨jm_i167, jm_at167, rfl, rfl, ?_⟩
  show jx_Ex _ jm_l167 jm_b167_0 [.ref 0, .int x1, .int x2, .int x3, .int x4] [] _ _
  unfold f_X10_reaches at h
  refine xo_2 rfl ?_
  refine xo_0 rfl ?_
  refine xo_0 rfl ?_
  refine xo_0 rfl ?_
  refine xo_49 (st' := []) rfl rfl (xc_ly hS ly0) rfl (Nat.le_of_ble_eq_true rfl) ?_
  refine t_X10_canRide hS ?_
  refine jw_mono (jw_bind h) (fun q1 h => ?_)
  show jx_Ex _ _ _ _ [.int q1.1] (jh S q1.2) _
  refine xo_55 (t := jm_b167_22) rfl (fun hc2 => ?_) (fun hc2 => ?_)
  · replace h := jw_pos hc2 h
    refine xo_8 ?_
    replace h := jw_some h
    exact xo_69 h
  · replace h := jw_neg hc2 h
    refine xo_2 rfl ?_
    refine xc_33 (i := 1) (q := 3) hS ly0 rfl (xc_P hS (by decide)) ?_
    refine xo_1 rfl ?_
    refine xo_49 (st' := []) rfl rfl (xc_ly hS ly3) rfl (Nat.le_of_ble_eq_true rfl) ?_
    refine t_X3_hasPlace hS ?_
    refine jw_mono (jw_bind h) (fun q3 h => ?_)
    show jx_Ex _ _ _ _ [.int q3.1] (jh S q3.2) _
    refine xo_56 (t := jm_b167_24) rfl (fun hc4 => ?_) (fun hc4 => ?_)
    · replace h := jw_pos hc4 h
      refine xo_2 rfl ?_
      refine xc_33 (i := 6) (q := 49) hS ly0 rfl (xc_P hS (by decide)) ?_
      refine xo_0 rfl ?_
      refine xo_0 rfl ?_
      refine xo_0 rfl ?_
      refine xo_49 (st' := []) rfl rfl (xc_ly hS ly49) rfl (Nat.le_of_ble_eq_true rfl) ?_
      refine t_X5_begin hS ?_
      refine jw_mono (jw_bind h) (fun q5 h => ?_)
      show jx_Ex _ _ _ _ [] (jh S q5.2) _
      refine xo_2 rfl ?_
      refine xc_33 (i := 6) (q := 49) hS ly0 rfl (xc_P hS (by decide)) ?_
      refine xo_1 rfl ?_
      refine xo_49 (st' := []) rfl rfl (xc_ly hS ly49) rfl (Nat.le_of_ble_eq_true rfl) ?_
      refine t_X5_comesTo hS ?_
      refine jw_mono (jw_bind h) (fun q6 h => ?_)
      show jx_Ex _ _ _ _ [.int q6.1] (jh S q6.2) _
      refine xo_55 (t := jm_b167_56) rfl (fun hc7 => ?_) (fun hc7 => ?_)
      · replace h := jw_pos hc7 h
        refine xo_9 ?_
        replace h := jw_some h
        exact xo_69 h
      · replace h := jw_neg hc7 h
        refine xo_2 rfl ?_
        refine xc_33 (i := 6) (q := 49) hS ly0 rfl (xc_P hS (by decide)) ?_
        refine xo_49 (st' := []) rfl rfl (xc_ly hS ly49) rfl (Nat.le_of_ble_eq_true rfl) ?_
        refine t_X5_taken hS ?_
        refine jw_mono (jw_bind h) (fun q8 h => ?_)
        show jx_Ex _ _ _ _ [.int q8.1] (jh S q8.2) _
        refine xo_54 (t := jm_b167_58) rfl ?_
        replace h := jw_some h
        exact xo_69 h
    · replace h := jw_neg hc4 h
      refine xo_8 ?_
      replace h := jw_some h
      exact xo_69 h
/-- OfDifferentMinds.stopsAt, at ['x', 'int', 'int', 'int', 'int'] -/
def f_X10_stopsAt (x1 : Int32) (x2 : Int32) (x3 : Int32) (x4 : Int32) (σ : jT) : Option (Int32 × jT) :=
  (f_X5_begin x1 x2 x3 σ).bind fun q1 =>
  (f_X5_goOut q1.2).bind fun q2 =>
  (f_X5_hasStopped q2.2).bind fun q3 =>
  if q3.1 = 0 then
    some (0, q3.2)
  else
    (f_X5_spot q3.2).bind fun q5 =>
    if ¬ q5.1 = x4 then
      some (0, q5.2)
    else
      some (1, q5.2)
theorem t_X10_stopsAt {S : jS} (hS : jCok S) {d : Nat} {Q : Option Value → jx_H → Prop} {x1 : Int32} {x2 : Int32} {x3 : Int32} {x4 : Int32} {σ : jT} (h : jw (f_X10_stopsAt x1 x2 x3 x4 σ) (fun q => Q (some (.int q.1)) (jh S q.2))) : jx_Sp (d + 5) 169 [.ref 0, .int x1, .int x2, .int x3, .int x4] (jh S σ) Q := by
  refine ⟨jm_i169, jm_at169, rfl, rfl, ?_⟩
  show jx_Ex _ jm_l169 jm_b169_0 [.ref 0, .int x1, .int x2, .int x3, .int x4] [] _ _
  unfold f_X10_stopsAt at h
  refine xo_2 rfl ?_
  refine xc_33 (i := 6) (q := 49) hS ly0 rfl (xc_P hS (by decide)) ?_
  refine xo_0 rfl ?_
  refine xo_0 rfl ?_
  refine xo_0 rfl ?_
  refine xo_49 (st' := []) rfl rfl (xc_ly hS ly49) rfl (Nat.le_of_ble_eq_true rfl) ?_
  refine t_X5_begin hS ?_
  refine jw_mono (jw_bind h) (fun q1 h => ?_)
  show jx_Ex _ _ _ _ [] (jh S q1.2) _
  refine xo_2 rfl ?_
  refine xc_33 (i := 6) (q := 49) hS ly0 rfl (xc_P hS (by decide)) ?_
  refine xo_49 (st' := []) rfl rfl (xc_ly hS ly49) rfl (Nat.le_of_ble_eq_true rfl) ?_
  refine t_X5_goOut hS ?_
  refine jw_mono (jw_bind h) (fun q2 h => ?_)
  show jx_Ex _ _ _ _ [] (jh S q2.2) _
  refine xo_2 rfl ?_
  refine xc_33 (i := 6) (q := 49) hS ly0 rfl (xc_P hS (by decide)) ?_
  refine xo_49 (st' := []) rfl rfl (xc_ly hS ly49) rfl (Nat.le_of_ble_eq_true rfl) ?_
  refine t_X5_hasStopped hS ?_
  refine jw_mono (jw_bind h) (fun q3 h => ?_)
  show jx_Ex _ _ _ _ [.int q3.1] (jh S q3.2) _
  refine xo_55 (t := jm_b169_43) rfl (fun hc4 => ?_) (fun hc4 => ?_)
  · replace h := jw_pos hc4 h
    refine xo_8 ?_
    replace h := jw_some h
    exact xo_70 (by decide) h
  · replace h := jw_neg hc4 h
    refine xo_2 rfl ?_
    refine xc_33 (i := 6) (q := 49) hS ly0 rfl (xc_P hS (by decide)) ?_
    refine xo_49 (st' := []) rfl rfl (xc_ly hS ly49) rfl (Nat.le_of_ble_eq_true rfl) ?_
    refine t_X5_spot hS ?_
    refine jw_mono (jw_bind h) (fun q5 h => ?_)
    show jx_Ex _ _ _ _ [.int q5.1] (jh S q5.2) _
    refine xo_1 rfl ?_
    refine xo_62 (t := jm_b169_43) rfl (fun hc6 => ?_) (fun hc6 => ?_)
    · replace h := jw_pos hc6 h
      refine xo_8 ?_
      replace h := jw_some h
      exact xo_70 (by decide) h
    · replace h := jw_neg hc6 h
      refine xo_8 ?_
      refine xo_54 (t := jm_b169_44) rfl ?_
      replace h := jw_some h
      exact xo_70 (by decide) h
/-- OfDifferentMinds.pairs, at ['x', 'int', 'int'] -/
def f_X10_pairs_b125 (k56 : Int32 → Int32 → Int32 → Int32 → Int32 → Int32 → jT → Option (Int32 × jT)) (x1 : Int32) (x2 : Int32) (x3 : Int32) (x4 : Int32) (x5 : Int32) (x6 : Int32) (σ : jT) : Option (Int32 × jT) :=
  k56 x1 x2 x3 x4 x5 (x6 + 1) σ
def f_X10_pairs_b56 (k41 : Int32 → Int32 → Int32 → Int32 → Int32 → jT → Option (Int32 × jT)) : Nat → Int32 → Int32 → Int32 → Int32 → Int32 → Int32 → jT → Option (Int32 × jT)
  | 0, _, _, _, _, _, _, _ => none
  | n + 1, x1, x2, x3, x4, x5, x6, σ =>
    (f_X3_riderCount σ).bind fun q1 =>
    if q1.1 ≤ x6 then
      k41 x1 x2 x3 x4 (x5 + 1) q1.2
    else
      if x5 = x6 then
        f_X10_pairs_b125 (f_X10_pairs_b56 k41 n) x1 x2 x3 x4 x5 x6 q1.2
      else
        (f_X10_stopsAt x5 x6 x1 x2 q1.2).bind fun q4 =>
        if q4.1 = 0 then
          f_X10_pairs_b125 (f_X10_pairs_b56 k41 n) x1 x2 x3 x4 x5 x6 q4.2
        else
          (f_X5_taken q4.2).bind fun q6 =>
          if x4 ≤ q6.1 then
            f_X10_pairs_b125 (f_X10_pairs_b56 k41 n) x1 x2 (x3 + 1) x4 x5 x6 q6.2
          else
            (f_X5_taken q6.2).bind fun q8 =>
            (f_X6_tell__ x5 x6 q8.1 q8.2).bind fun q9 =>
            f_X10_pairs_b125 (f_X10_pairs_b56 k41 n) x1 x2 (x3 + 1) q8.1 x5 x6 q9.2
def f_X10_pairs_b41 : Nat → Int32 → Int32 → Int32 → Int32 → Int32 → jT → Option (Int32 × jT)
  | 0, _, _, _, _, _, _ => none
  | n + 1, x1, x2, x3, x4, x5, σ =>
    (f_X3_riderCount σ).bind fun q1 =>
    if q1.1 ≤ x5 then
      some (x3, q1.2)
    else
      f_X10_pairs_b56 (f_X10_pairs_b41 n) 1000 x1 x2 x3 x4 x5 0 q1.2
def f_X10_pairs (x1 : Int32) (x2 : Int32) (σ : jT) : Option (Int32 × jT) :=
  (f_X3_hasPlace x1 σ).bind fun q1 =>
  if q1.1 = 0 then
    some ((-1), q1.2)
  else
    (f_X3_hasPlace x2 q1.2).bind fun q3 =>
    if ¬ q3.1 = 0 then
      (f_X6_clear q3.2).bind fun q5 =>
      f_X10_pairs_b41 1000 x1 x2 0 201 0 q5.2
    else
      some ((-1), q3.2)
theorem t_X10_pairs_b125 {S : jS} (hS : jCok S) {d : Nat} {Q : Option Value → jx_H → Prop} {k56 : Int32 → Int32 → Int32 → Int32 → Int32 → Int32 → jT → Option (Int32 × jT)} (hk56 : ∀ {x1 : Int32} {x2 : Int32} {x3 : Int32} {x4 : Int32} {x5 : Int32} {x6 : Int32} {σ : jT}, jw (k56 x1 x2 x3 x4 x5 x6 σ) (fun q => Q (some (.int q.1)) (jh S q.2)) → jx_Ex (d + 6) jm_l168 jm_b168_56 [.ref 0, .int x1, .int x2, .int x3, .int x4, .int x5, .int x6] [] (jh S σ) Q) {x1 : Int32} {x2 : Int32} {x3 : Int32} {x4 : Int32} {x5 : Int32} {x6 : Int32} {σ : jT} (h : jw (f_X10_pairs_b125 k56 x1 x2 x3 x4 x5 x6 σ) (fun q => Q (some (.int q.1)) (jh S q.2))) : jx_Ex (d + 6) jm_l168 jm_b168_125 [.ref 0, .int x1, .int x2, .int x3, .int x4, .int x5, .int x6] [] (jh S σ) Q := by
  unfold f_X10_pairs_b125 at h
  refine xo_13 (ls' := [.ref 0, .int x1, .int x2, .int x3, .int x4, .int x5, .int (x6 + 1)]) rfl rfl ?_
  refine xo_54 (t := jm_b168_56) rfl ?_
  exact hk56 h
theorem t_X10_pairs_b56 {S : jS} (hS : jCok S) {d : Nat} {Q : Option Value → jx_H → Prop} {k41 : Int32 → Int32 → Int32 → Int32 → Int32 → jT → Option (Int32 × jT)} (hk41 : ∀ {x1 : Int32} {x2 : Int32} {x3 : Int32} {x4 : Int32} {x5 : Int32} {w6 : Value} {σ : jT}, jw (k41 x1 x2 x3 x4 x5 σ) (fun q => Q (some (.int q.1)) (jh S q.2)) → jx_Ex (d + 6) jm_l168 jm_b168_41 [.ref 0, .int x1, .int x2, .int x3, .int x4, .int x5, w6] [] (jh S σ) Q) : ∀ (n : Nat) {x1 : Int32} {x2 : Int32} {x3 : Int32} {x4 : Int32} {x5 : Int32} {x6 : Int32} {σ : jT}, jw (f_X10_pairs_b56 k41 n x1 x2 x3 x4 x5 x6 σ) (fun q => Q (some (.int q.1)) (jh S q.2)) → jx_Ex (d + 6) jm_l168 jm_b168_56 [.ref 0, .int x1, .int x2, .int x3, .int x4, .int x5, .int x6] [] (jh S σ) Q := by
  intro n
  induction n with
  | zero => intro x1 x2 x3 x4 x5 x6 σ h; exact jw_none h
  | succ n ih =>
    intro x1 x2 x3 x4 x5 x6 σ h
    rw [f_X10_pairs_b56] at h
    refine xo_1 rfl ?_
    refine xo_2 rfl ?_
    refine xc_33 (i := 1) (q := 3) hS ly0 rfl (xc_P hS (by decide)) ?_
    refine xo_49 (st' := [.int x6]) rfl rfl (xc_ly hS ly3) rfl (Nat.le_of_ble_eq_true rfl) ?_
    refine t_X3_riderCount hS ?_
    refine jw_mono (jw_bind h) (fun q1 h => ?_)
    show jx_Ex _ _ _ _ [.int q1.1, .int x6] (jh S q1.2) _
    refine xo_64 (t := jm_b168_131) rfl (fun hc2 => ?_) (fun hc2 => ?_)
    · replace h := jw_pos hc2 h
      refine xo_13 (ls' := [.ref 0, .int x1, .int x2, .int x3, .int x4, .int (x5 + 1), .int x6]) rfl rfl ?_
      refine xo_54 (t := jm_b168_41) rfl ?_
      exact hk41 h
    · replace h := jw_neg hc2 h
      refine xo_1 rfl ?_
      refine xo_1 rfl ?_
      refine xo_61 (t := jm_b168_125) rfl (fun hc3 => ?_) (fun hc3 => ?_)
      · replace h := jw_pos hc3 h
        exact t_X10_pairs_b125 hS ih h
      · replace h := jw_neg hc3 h
        refine xo_2 rfl ?_
        refine xo_1 rfl ?_
        refine xo_1 rfl ?_
        refine xo_0 rfl ?_
        refine xo_0 rfl ?_
        refine xo_49 (st' := []) rfl rfl (xc_ly hS ly0) rfl (Nat.le_of_ble_eq_true rfl) ?_
        refine t_X10_stopsAt hS ?_
        refine jw_mono (jw_bind h) (fun q4 h => ?_)
        show jx_Ex _ _ _ _ [.int q4.1] (jh S q4.2) _
        refine xo_55 (t := jm_b168_125) rfl (fun hc5 => ?_) (fun hc5 => ?_)
        · replace h := jw_pos hc5 h
          exact t_X10_pairs_b125 hS ih h
        · replace h := jw_neg hc5 h
          refine xo_13 (ls' := [.ref 0, .int x1, .int x2, .int (x3 + 1), .int x4, .int x5, .int x6]) rfl rfl ?_
          refine xo_2 rfl ?_
          refine xc_33 (i := 6) (q := 49) hS ly0 rfl (xc_P hS (by decide)) ?_
          refine xo_49 (st' := []) rfl rfl (xc_ly hS ly49) rfl (Nat.le_of_ble_eq_true rfl) ?_
          refine t_X5_taken hS ?_
          refine jw_mono (jw_bind h) (fun q6 h => ?_)
          show jx_Ex _ _ _ _ [.int q6.1] (jh S q6.2) _
          refine xo_1 rfl ?_
          refine xo_64 (t := jm_b168_125) rfl (fun hc7 => ?_) (fun hc7 => ?_)
          · replace h := jw_pos hc7 h
            exact t_X10_pairs_b125 hS ih h
          · replace h := jw_neg hc7 h
            refine xo_2 rfl ?_
            refine xc_33 (i := 6) (q := 49) hS ly0 rfl (xc_P hS (by decide)) ?_
            refine xo_49 (st' := []) rfl rfl (xc_ly hS ly49) rfl (Nat.le_of_ble_eq_true rfl) ?_
            refine t_X5_taken hS ?_
            refine jw_mono (jw_bind h) (fun q8 h => ?_)
            show jx_Ex _ _ _ _ [.int q8.1] (jh S q8.2) _
            refine xo_5 (ls' := [.ref 0, .int x1, .int x2, .int (x3 + 1), .int q8.1, .int x5, .int x6]) rfl ?_
            refine xo_2 rfl ?_
            refine xc_33 (i := 5) (q := 47) hS ly0 rfl (xc_P hS (by decide)) ?_
            refine xo_1 rfl ?_
            refine xo_1 rfl ?_
            refine xo_1 rfl ?_
            refine xo_49 (st' := []) rfl rfl (xc_ly hS ly47) rfl (Nat.le_of_ble_eq_true rfl) ?_
            refine t_X6_tell__ hS ?_
            refine jw_mono (jw_bind h) (fun q9 h => ?_)
            show jx_Ex _ _ _ _ [] (jh S q9.2) _
            exact t_X10_pairs_b125 hS ih h
theorem t_X10_pairs_b41 {S : jS} (hS : jCok S) {d : Nat} {Q : Option Value → jx_H → Prop} : ∀ (n : Nat) {x1 : Int32} {x2 : Int32} {x3 : Int32} {x4 : Int32} {x5 : Int32} {w6 : Value} {σ : jT}, jw (f_X10_pairs_b41 n x1 x2 x3 x4 x5 σ) (fun q => Q (some (.int q.1)) (jh S q.2)) → jx_Ex (d + 6) jm_l168 jm_b168_41 [.ref 0, .int x1, .int x2, .int x3, .int x4, .int x5, w6] [] (jh S σ) Q := by
  intro n
  induction n with
  | zero => intro x1 x2 x3 x4 x5 w6 σ h; exact jw_none h
  | succ n ih =>
    intro x1 x2 x3 x4 x5 w6 σ h
    rw [f_X10_pairs_b41] at h
    refine xo_1 rfl ?_
    refine xo_2 rfl ?_
    refine xc_33 (i := 1) (q := 3) hS ly0 rfl (xc_P hS (by decide)) ?_
    refine xo_49 (st' := [.int x5]) rfl rfl (xc_ly hS ly3) rfl (Nat.le_of_ble_eq_true rfl) ?_
    refine t_X3_riderCount hS ?_
    refine jw_mono (jw_bind h) (fun q1 h => ?_)
    show jx_Ex _ _ _ _ [.int q1.1, .int x5] (jh S q1.2) _
    refine xo_64 (t := jm_b168_137) rfl (fun hc2 => ?_) (fun hc2 => ?_)
    · replace h := jw_pos hc2 h
      refine xo_0 rfl ?_
      replace h := jw_some h
      exact xo_69 h
    · replace h := jw_neg hc2 h
      refine xo_8 ?_
      refine xo_5 (ls' := [.ref 0, .int x1, .int x2, .int x3, .int x4, .int x5, .int 0]) rfl ?_
      exact t_X10_pairs_b56 hS ih 1000 h
theorem t_X10_pairs {S : jS} (hS : jCok S) {d : Nat} {Q : Option Value → jx_H → Prop} {x1 : Int32} {x2 : Int32} {σ : jT} (h : jw (f_X10_pairs x1 x2 σ) (fun q => Q (some (.int q.1)) (jh S q.2))) : jx_Sp (d + 6) 168 [.ref 0, .int x1, .int x2] (jh S σ) Q := by
  refine ⟨jm_i168, jm_at168, rfl, rfl, ?_⟩
  show jx_Ex _ jm_l168 jm_b168_0 [.ref 0, .int x1, .int x2, .retAddr 0, .retAddr 0, .retAddr 0, .retAddr 0] [] _ _
  unfold f_X10_pairs at h
  refine xo_2 rfl ?_
  refine xc_33 (i := 1) (q := 3) hS ly0 rfl (xc_P hS (by decide)) ?_
  refine xo_0 rfl ?_
  refine xo_49 (st' := []) rfl rfl (xc_ly hS ly3) rfl (Nat.le_of_ble_eq_true rfl) ?_
  refine t_X3_hasPlace hS ?_
  refine jw_mono (jw_bind h) (fun q1 h => ?_)
  show jx_Ex _ _ _ _ [.int q1.1] (jh S q1.2) _
  refine xo_55 (t := jm_b168_22) rfl (fun hc2 => ?_) (fun hc2 => ?_)
  · replace h := jw_pos hc2 h
    refine xo_8 ?_
    replace h := jw_some h
    exact xo_69 h
  · replace h := jw_neg hc2 h
    refine xo_2 rfl ?_
    refine xc_33 (i := 1) (q := 3) hS ly0 rfl (xc_P hS (by decide)) ?_
    refine xo_0 rfl ?_
    refine xo_49 (st' := []) rfl rfl (xc_ly hS ly3) rfl (Nat.le_of_ble_eq_true rfl) ?_
    refine t_X3_hasPlace hS ?_
    refine jw_mono (jw_bind h) (fun q3 h => ?_)
    show jx_Ex _ _ _ _ [.int q3.1] (jh S q3.2) _
    refine xo_56 (t := jm_b168_24) rfl (fun hc4 => ?_) (fun hc4 => ?_)
    · replace h := jw_pos hc4 h
      refine xo_8 ?_
      refine xo_4 (ls' := [.ref 0, .int x1, .int x2, .int 0, .retAddr 0, .retAddr 0, .retAddr 0]) rfl ?_
      refine xo_10 ?_
      refine xo_5 (ls' := [.ref 0, .int x1, .int x2, .int 0, .int 201, .retAddr 0, .retAddr 0]) rfl ?_
      refine xo_2 rfl ?_
      refine xc_33 (i := 5) (q := 47) hS ly0 rfl (xc_P hS (by decide)) ?_
      refine xo_49 (st' := []) rfl rfl (xc_ly hS ly47) rfl (Nat.le_of_ble_eq_true rfl) ?_
      refine t_X6_clear hS ?_
      refine jw_mono (jw_bind h) (fun q5 h => ?_)
      show jx_Ex _ _ _ _ [] (jh S q5.2) _
      refine xo_8 ?_
      refine xo_5 (ls' := [.ref 0, .int x1, .int x2, .int 0, .int 201, .int 0, .retAddr 0]) rfl ?_
      exact t_X10_pairs_b41 hS 1000 h
    · replace h := jw_neg hc4 h
      refine xo_8 ?_
      replace h := jw_some h
      exact xo_69 h
/-- Land.inns, at ['x.land'] -/
def f_X3_inns (σ : jT) : Option (Int32 × jT) :=
  some ((σ.1 196), σ)
theorem t_X3_inns {S : jS} (hS : jCok S) {d : Nat} {Q : Option Value → jx_H → Prop} {σ : jT} (h : jw (f_X3_inns σ) (fun q => Q (some (.int q.1)) (jh S q.2))) : jx_Sp (d) 29 [.ref 3] (jh S σ) Q := by
  refine ⟨jm_i29, jm_at29, rfl, rfl, ?_⟩
  show jx_Ex _ jm_l29 jm_b29_0 [.ref 3] [] _ _
  unfold f_X3_inns at h
  refine xo_2 rfl ?_
  refine xc_32 (i := 196) (v := (σ.1 196)) hS ly3 rfl ⟨Nat.le_of_ble_eq_true rfl, Nat.le_of_ble_eq_true rfl⟩ rfl ?_
  replace h := jw_some h
  exact xo_69 h
/-- Atlas.surveyFrom, at ['x.atlas', 'int'] -/
def f_X0_surveyFrom_b100 (k18 : Int32 → Int32 → Int32 → Int32 → jT → Option (Int32 × jT)) (x1 : Int32) (x2 : Int32) (x3 : Int32) (x4 : Int32) (σ : jT) : Option (Int32 × jT) :=
  k18 x1 x2 x3 (x4 + 1) σ
def f_X0_surveyFrom_b18 (k4 : Int32 → Int32 → Int32 → jT → Option (Int32 × jT)) : Nat → Int32 → Int32 → Int32 → Int32 → jT → Option (Int32 × jT)
  | 0, _, _, _, _, _ => none
  | n + 1, x1, x2, x3, x4, σ =>
    (f_X3_riderCount σ).bind fun q1 =>
    if q1.1 ≤ x4 then
      k4 x1 x2 (x3 + 1) q1.2
    else
      if x3 = x4 then
        f_X0_surveyFrom_b100 (f_X0_surveyFrom_b18 k4 n) x1 x2 x3 x4 q1.2
      else
        (f_X5_beginFresh x3 x4 x1 q1.2).bind fun q4 =>
        (f_X5_goOut q4.2).bind fun q5 =>
        (f_X5_hasStopped q5.2).bind fun q6 =>
        if q6.1 = 0 then
          f_X0_surveyFrom_b100 (f_X0_surveyFrom_b18 k4 n) x1 x2 x3 x4 q6.2
        else
          (f_X5_spot q6.2).bind fun q8 =>
          if jx_in (((x1 * 36) + (x3 * 6)) + x4) 360 then
          (f_X5_spot (gA q8.2 56 (((x1 * 36) + (x3 * 6)) + x4).toNatClampNeg q8.1)).bind fun q10 =>
          f_X0_surveyFrom_b100 (f_X0_surveyFrom_b18 k4 n) x1 (x2 ||| (1 <<< (q10.1 &&& 31))) x3 x4 q10.2
          else none
def f_X0_surveyFrom_b4 : Nat → Int32 → Int32 → Int32 → jT → Option (Int32 × jT)
  | 0, _, _, _, _ => none
  | n + 1, x1, x2, x3, σ =>
    (f_X3_riderCount σ).bind fun q1 =>
    if q1.1 ≤ x3 then
      some (x2, q1.2)
    else
      f_X0_surveyFrom_b18 (f_X0_surveyFrom_b4 n) 1000 x1 x2 x3 0 q1.2
def f_X0_surveyFrom (x1 : Int32) (σ : jT) : Option (Int32 × jT) :=
  f_X0_surveyFrom_b4 1000 x1 0 0 σ
theorem t_X0_surveyFrom_b100 {S : jS} (hS : jCok S) {d : Nat} {Q : Option Value → jx_H → Prop} {k18 : Int32 → Int32 → Int32 → Int32 → jT → Option (Int32 × jT)} (hk18 : ∀ {x1 : Int32} {x2 : Int32} {x3 : Int32} {x4 : Int32} {σ : jT}, jw (k18 x1 x2 x3 x4 σ) (fun q => Q (some (.int q.1)) (jh S q.2)) → jx_Ex (d + 5) jm_l2 jm_b2_18 [.ref 55, .int x1, .int x2, .int x3, .int x4] [] (jh S σ) Q) {x1 : Int32} {x2 : Int32} {x3 : Int32} {x4 : Int32} {σ : jT} (h : jw (f_X0_surveyFrom_b100 k18 x1 x2 x3 x4 σ) (fun q => Q (some (.int q.1)) (jh S q.2))) : jx_Ex (d + 5) jm_l2 jm_b2_100 [.ref 55, .int x1, .int x2, .int x3, .int x4] [] (jh S σ) Q := by
  unfold f_X0_surveyFrom_b100 at h
  refine xo_13 (ls' := [.ref 55, .int x1, .int x2, .int x3, .int (x4 + 1)]) rfl rfl ?_
  refine xo_54 (t := jm_b2_18) rfl ?_
  exact hk18 h
theorem t_X0_surveyFrom_b18 {S : jS} (hS : jCok S) {d : Nat} {Q : Option Value → jx_H → Prop} {k4 : Int32 → Int32 → Int32 → jT → Option (Int32 × jT)} (hk4 : ∀ {x1 : Int32} {x2 : Int32} {x3 : Int32} {w4 : Value} {σ : jT}, jw (k4 x1 x2 x3 σ) (fun q => Q (some (.int q.1)) (jh S q.2)) → jx_Ex (d + 5) jm_l2 jm_b2_4 [.ref 55, .int x1, .int x2, .int x3, w4] [] (jh S σ) Q) : ∀ (n : Nat) {x1 : Int32} {x2 : Int32} {x3 : Int32} {x4 : Int32} {σ : jT}, jw (f_X0_surveyFrom_b18 k4 n x1 x2 x3 x4 σ) (fun q => Q (some (.int q.1)) (jh S q.2)) → jx_Ex (d + 5) jm_l2 jm_b2_18 [.ref 55, .int x1, .int x2, .int x3, .int x4] [] (jh S σ) Q := by
  intro n
  induction n with
  | zero => intro x1 x2 x3 x4 σ h; exact jw_none h
  | succ n ih =>
    intro x1 x2 x3 x4 σ h
    rw [f_X0_surveyFrom_b18] at h
    refine xo_1 rfl ?_
    refine xo_2 rfl ?_
    refine xc_33 (i := 3520) (q := 3) hS ly55 rfl (xc_P hS (by decide)) ?_
    refine xo_49 (st' := [.int x4]) rfl rfl (xc_ly hS ly3) rfl (Nat.le_of_ble_eq_true rfl) ?_
    refine t_X3_riderCount hS ?_
    refine jw_mono (jw_bind h) (fun q1 h => ?_)
    show jx_Ex _ _ _ _ [.int q1.1, .int x4] (jh S q1.2) _
    refine xo_64 (t := jm_b2_106) rfl (fun hc2 => ?_) (fun hc2 => ?_)
    · replace h := jw_pos hc2 h
      refine xo_13 (ls' := [.ref 55, .int x1, .int x2, .int (x3 + 1), .int x4]) rfl rfl ?_
      refine xo_54 (t := jm_b2_4) rfl ?_
      exact hk4 h
    · replace h := jw_neg hc2 h
      refine xo_0 rfl ?_
      refine xo_1 rfl ?_
      refine xo_61 (t := jm_b2_100) rfl (fun hc3 => ?_) (fun hc3 => ?_)
      · replace h := jw_pos hc3 h
        exact t_X0_surveyFrom_b100 hS ih h
      · replace h := jw_neg hc3 h
        refine xo_2 rfl ?_
        refine xc_33 (i := 3521) (q := 49) hS ly55 rfl (xc_P hS (by decide)) ?_
        refine xo_0 rfl ?_
        refine xo_1 rfl ?_
        refine xo_0 rfl ?_
        refine xo_49 (st' := []) rfl rfl (xc_ly hS ly49) rfl (Nat.le_of_ble_eq_true rfl) ?_
        refine t_X5_beginFresh hS ?_
        refine jw_mono (jw_bind h) (fun q4 h => ?_)
        show jx_Ex _ _ _ _ [] (jh S q4.2) _
        refine xo_2 rfl ?_
        refine xc_33 (i := 3521) (q := 49) hS ly55 rfl (xc_P hS (by decide)) ?_
        refine xo_49 (st' := []) rfl rfl (xc_ly hS ly49) rfl (Nat.le_of_ble_eq_true rfl) ?_
        refine t_X5_goOut hS ?_
        refine jw_mono (jw_bind h) (fun q5 h => ?_)
        show jx_Ex _ _ _ _ [] (jh S q5.2) _
        refine xo_2 rfl ?_
        refine xc_33 (i := 3521) (q := 49) hS ly55 rfl (xc_P hS (by decide)) ?_
        refine xo_49 (st' := []) rfl rfl (xc_ly hS ly49) rfl (Nat.le_of_ble_eq_true rfl) ?_
        refine t_X5_hasStopped hS ?_
        refine jw_mono (jw_bind h) (fun q6 h => ?_)
        show jx_Ex _ _ _ _ [.int q6.1] (jh S q6.2) _
        refine xo_55 (t := jm_b2_100) rfl (fun hc7 => ?_) (fun hc7 => ?_)
        · replace h := jw_pos hc7 h
          exact t_X0_surveyFrom_b100 hS ih h
        · replace h := jw_neg hc7 h
          refine xo_2 rfl ?_
          refine xc_33 (i := 3522) (q := 56) hS ly55 rfl (xc_P hS (by decide)) ?_
          refine xo_0 rfl ?_
          refine xo_9 ?_
          refine xo_16 ?_
          refine xo_0 rfl ?_
          refine xo_9 ?_
          refine xo_16 ?_
          refine xo_14 ?_
          refine xo_1 rfl ?_
          refine xo_14 ?_
          refine xo_2 rfl ?_
          refine xc_33 (i := 3521) (q := 49) hS ly55 rfl (xc_P hS (by decide)) ?_
          refine xo_49 (st' := [.int (((x1 * 36) + (x3 * 6)) + x4), .ref 56]) rfl rfl (xc_ly hS ly49) rfl (Nat.le_of_ble_eq_true rfl) ?_
          refine t_X5_spot hS ?_
          refine jw_mono (jw_bind h) (fun q8 h => ?_)
          show jx_Ex _ _ _ _ [.int q8.1, .int (((x1 * 36) + (x3 * 6)) + x4), .ref 56] (jh S q8.2) _
          obtain ⟨hi9, h⟩ := jw_chk h
          refine xc_41 (j := (((x1 * 36) + (x3 * 6)) + x4).toNatClampNeg) hS ly56 ⟨Nat.le_of_ble_eq_true rfl, Nat.le_of_ble_eq_true rfl⟩ hi9 rfl ?_
          refine xo_0 rfl ?_
          refine xo_8 ?_
          refine xo_2 rfl ?_
          refine xc_33 (i := 3521) (q := 49) hS ly55 rfl (xc_P hS (by decide)) ?_
          refine xo_49 (st' := [.int 1, .int x2]) rfl rfl (xc_ly hS ly49) rfl (Nat.le_of_ble_eq_true rfl) ?_
          refine t_X5_spot hS ?_
          refine jw_mono (jw_bind h) (fun q10 h => ?_)
          show jx_Ex _ _ _ _ [.int q10.1, .int 1, .int x2] (jh S q10.2) _
          refine xo_23 ?_
          refine xo_21 ?_
          refine xo_4 (ls' := [.ref 55, .int x1, .int (x2 ||| (1 <<< (q10.1 &&& 31))), .int x3, .int x4]) rfl ?_
          exact t_X0_surveyFrom_b100 hS ih h
theorem t_X0_surveyFrom_b4 {S : jS} (hS : jCok S) {d : Nat} {Q : Option Value → jx_H → Prop} : ∀ (n : Nat) {x1 : Int32} {x2 : Int32} {x3 : Int32} {w4 : Value} {σ : jT}, jw (f_X0_surveyFrom_b4 n x1 x2 x3 σ) (fun q => Q (some (.int q.1)) (jh S q.2)) → jx_Ex (d + 5) jm_l2 jm_b2_4 [.ref 55, .int x1, .int x2, .int x3, w4] [] (jh S σ) Q := by
  intro n
  induction n with
  | zero => intro x1 x2 x3 w4 σ h; exact jw_none h
  | succ n ih =>
    intro x1 x2 x3 w4 σ h
    rw [f_X0_surveyFrom_b4] at h
    refine xo_0 rfl ?_
    refine xo_2 rfl ?_
    refine xc_33 (i := 3520) (q := 3) hS ly55 rfl (xc_P hS (by decide)) ?_
    refine xo_49 (st' := [.int x3]) rfl rfl (xc_ly hS ly3) rfl (Nat.le_of_ble_eq_true rfl) ?_
    refine t_X3_riderCount hS ?_
    refine jw_mono (jw_bind h) (fun q1 h => ?_)
    show jx_Ex _ _ _ _ [.int q1.1, .int x3] (jh S q1.2) _
    refine xo_64 (t := jm_b2_112) rfl (fun hc2 => ?_) (fun hc2 => ?_)
    · replace h := jw_pos hc2 h
      refine xo_0 rfl ?_
      replace h := jw_some h
      exact xo_69 h
    · replace h := jw_neg hc2 h
      refine xo_8 ?_
      refine xo_5 (ls' := [.ref 55, .int x1, .int x2, .int x3, .int 0]) rfl ?_
      exact t_X0_surveyFrom_b18 hS ih 1000 h
theorem t_X0_surveyFrom {S : jS} (hS : jCok S) {d : Nat} {Q : Option Value → jx_H → Prop} {x1 : Int32} {σ : jT} (h : jw (f_X0_surveyFrom x1 σ) (fun q => Q (some (.int q.1)) (jh S q.2))) : jx_Sp (d + 5) 2 [.ref 55, .int x1] (jh S σ) Q := by
  refine ⟨jm_i2, jm_at2, rfl, rfl, ?_⟩
  show jx_Ex _ jm_l2 jm_b2_0 [.ref 55, .int x1, .retAddr 0, .retAddr 0, .retAddr 0] [] _ _
  unfold f_X0_surveyFrom at h
  refine xo_8 ?_
  refine xo_4 (ls' := [.ref 55, .int x1, .int 0, .retAddr 0, .retAddr 0]) rfl ?_
  refine xo_8 ?_
  refine xo_4 (ls' := [.ref 55, .int x1, .int 0, .int 0, .retAddr 0]) rfl ?_
  exact t_X0_surveyFrom_b4 hS 1000 h
/-- Atlas.survey, at ['x.atlas', 'int'] -/
def f_X0_survey_b91 (k58 : Int32 → Int32 → Int32 → Int32 → Int32 → Int32 → jT → Option (Int32 × jT)) (x1 : Int32) (x3 : Int32) (x4 : Int32) (x5 : Int32) (x6 : Int32) (s0 : Int32) (s1 : Int32) (σ : jT) : Option (Int32 × jT) :=
  k58 x1 (s1 ||| s0) x3 x4 x5 (x6 + 1) σ
def f_X0_survey_b58 (k29 : Int32 → Int32 → Int32 → Int32 → jT → Option (Int32 × jT)) : Nat → Int32 → Int32 → Int32 → Int32 → Int32 → Int32 → jT → Option (Int32 × jT)
  | 0, _, _, _, _, _, _, _ => none
  | n + 1, x1, x2, x3, x4, x5, x6, σ =>
    (f_X3_places σ).bind fun q1 =>
    if q1.1 ≤ x6 then
      k29 x1 x2 (x3 ||| x5) (x4 + 1) q1.2
    else
      if ((x5 >>> (x6 &&& 31)) &&& 1) = 0 then
        f_X0_survey_b91 (f_X0_survey_b58 k29 n) x1 x3 x4 x5 x6 0 x2 q1.2
      else
        (f_X0_surveyFrom x6 q1.2).bind fun q4 =>
        f_X0_survey_b91 (f_X0_survey_b58 k29 n) x1 x3 x4 x5 x6 q4.1 x2 q4.2
def f_X0_survey_b29 : Nat → Int32 → Int32 → Int32 → Int32 → jT → Option (Int32 × jT)
  | 0, _, _, _, _, _ => none
  | n + 1, x1, x2, x3, x4, σ =>
    if 10 ≤ x4 then
      some (x2, σ)
    else
      (f_X3_inns σ).bind fun q2 =>
      f_X0_survey_b58 (f_X0_survey_b29 n) 1000 x1 x2 x3 x4 (((1 <<< (x1 &&& 31)) ||| (x2 &&& q2.1)) &&& (x3 ^^^ (-1))) 0 q2.2
def f_X0_survey_b2 : Nat → Int32 → Int32 → jT → Option (Int32 × jT)
  | 0, _, _, _ => none
  | n + 1, x1, x2, σ =>
    if 360 ≤ x2 then
      f_X0_survey_b29 1000 x1 0 0 0 σ
    else
      if jx_in x2 360 then
      f_X0_survey_b2 n x1 (x2 + 1) (gA σ 56 x2.toNatClampNeg (-1))
      else none
def f_X0_survey (x1 : Int32) (σ : jT) : Option (Int32 × jT) :=
  f_X0_survey_b2 1000 x1 0 σ
theorem t_X0_survey_b91 {S : jS} (hS : jCok S) {d : Nat} {Q : Option Value → jx_H → Prop} {k58 : Int32 → Int32 → Int32 → Int32 → Int32 → Int32 → jT → Option (Int32 × jT)} (hk58 : ∀ {x1 : Int32} {x2 : Int32} {x3 : Int32} {x4 : Int32} {x5 : Int32} {x6 : Int32} {σ : jT}, jw (k58 x1 x2 x3 x4 x5 x6 σ) (fun q => Q (some (.int q.1)) (jh S q.2)) → jx_Ex (d + 6) jm_l1 jm_b1_58 [.ref 55, .int x1, .int x2, .int x3, .int x4, .int x5, .int x6] [] (jh S σ) Q) {x1 : Int32} {x3 : Int32} {x4 : Int32} {x5 : Int32} {x6 : Int32} {s0 : Int32} {s1 : Int32} {w2 : Value} {σ : jT} (h : jw (f_X0_survey_b91 k58 x1 x3 x4 x5 x6 s0 s1 σ) (fun q => Q (some (.int q.1)) (jh S q.2))) : jx_Ex (d + 6) jm_l1 jm_b1_91 [.ref 55, .int x1, w2, .int x3, .int x4, .int x5, .int x6] [.int s0, .int s1] (jh S σ) Q := by
  unfold f_X0_survey_b91 at h
  refine xo_21 ?_
  refine xo_4 (ls' := [.ref 55, .int x1, .int (s1 ||| s0), .int x3, .int x4, .int x5, .int x6]) rfl ?_
  refine xo_13 (ls' := [.ref 55, .int x1, .int (s1 ||| s0), .int x3, .int x4, .int x5, .int (x6 + 1)]) rfl rfl ?_
  refine xo_54 (t := jm_b1_58) rfl ?_
  exact hk58 h
theorem t_X0_survey_b58 {S : jS} (hS : jCok S) {d : Nat} {Q : Option Value → jx_H → Prop} {k29 : Int32 → Int32 → Int32 → Int32 → jT → Option (Int32 × jT)} (hk29 : ∀ {x1 : Int32} {x2 : Int32} {x3 : Int32} {x4 : Int32} {w5 : Value} {w6 : Value} {σ : jT}, jw (k29 x1 x2 x3 x4 σ) (fun q => Q (some (.int q.1)) (jh S q.2)) → jx_Ex (d + 6) jm_l1 jm_b1_29 [.ref 55, .int x1, .int x2, .int x3, .int x4, w5, w6] [] (jh S σ) Q) : ∀ (n : Nat) {x1 : Int32} {x2 : Int32} {x3 : Int32} {x4 : Int32} {x5 : Int32} {x6 : Int32} {σ : jT}, jw (f_X0_survey_b58 k29 n x1 x2 x3 x4 x5 x6 σ) (fun q => Q (some (.int q.1)) (jh S q.2)) → jx_Ex (d + 6) jm_l1 jm_b1_58 [.ref 55, .int x1, .int x2, .int x3, .int x4, .int x5, .int x6] [] (jh S σ) Q := by
  intro n
  induction n with
  | zero => intro x1 x2 x3 x4 x5 x6 σ h; exact jw_none h
  | succ n ih =>
    intro x1 x2 x3 x4 x5 x6 σ h
    rw [f_X0_survey_b58] at h
    refine xo_1 rfl ?_
    refine xo_2 rfl ?_
    refine xc_33 (i := 3520) (q := 3) hS ly55 rfl (xc_P hS (by decide)) ?_
    refine xo_49 (st' := [.int x6]) rfl rfl (xc_ly hS ly3) rfl (Nat.le_of_ble_eq_true rfl) ?_
    refine t_X3_places hS ?_
    refine jw_mono (jw_bind h) (fun q1 h => ?_)
    show jx_Ex _ _ _ _ [.int q1.1, .int x6] (jh S q1.2) _
    refine xo_64 (t := jm_b1_99) rfl (fun hc2 => ?_) (fun hc2 => ?_)
    · replace h := jw_pos hc2 h
      refine xo_0 rfl ?_
      refine xo_1 rfl ?_
      refine xo_21 ?_
      refine xo_4 (ls' := [.ref 55, .int x1, .int x2, .int (x3 ||| x5), .int x4, .int x5, .int x6]) rfl ?_
      refine xo_13 (ls' := [.ref 55, .int x1, .int x2, .int (x3 ||| x5), .int (x4 + 1), .int x5, .int x6]) rfl rfl ?_
      refine xo_54 (t := jm_b1_29) rfl ?_
      exact hk29 h
    · replace h := jw_neg hc2 h
      refine xo_0 rfl ?_
      refine xo_1 rfl ?_
      refine xo_1 rfl ?_
      refine xo_24 ?_
      refine xo_8 ?_
      refine xo_20 ?_
      refine xo_55 (t := jm_b1_90) rfl (fun hc3 => ?_) (fun hc3 => ?_)
      · replace h := jw_pos hc3 h
        refine xo_8 ?_
        exact t_X0_survey_b91 hS ih h
      · replace h := jw_neg hc3 h
        refine xo_2 rfl ?_
        refine xo_1 rfl ?_
        refine xo_49 (st' := [.int x2]) rfl rfl (xc_ly hS ly55) rfl (Nat.le_of_ble_eq_true rfl) ?_
        refine t_X0_surveyFrom hS ?_
        refine jw_mono (jw_bind h) (fun q4 h => ?_)
        show jx_Ex _ _ _ _ [.int q4.1, .int x2] (jh S q4.2) _
        refine xo_54 (t := jm_b1_91) rfl ?_
        exact t_X0_survey_b91 hS ih h
theorem t_X0_survey_b29 {S : jS} (hS : jCok S) {d : Nat} {Q : Option Value → jx_H → Prop} : ∀ (n : Nat) {x1 : Int32} {x2 : Int32} {x3 : Int32} {x4 : Int32} {w5 : Value} {w6 : Value} {σ : jT}, jw (f_X0_survey_b29 n x1 x2 x3 x4 σ) (fun q => Q (some (.int q.1)) (jh S q.2)) → jx_Ex (d + 6) jm_l1 jm_b1_29 [.ref 55, .int x1, .int x2, .int x3, .int x4, w5, w6] [] (jh S σ) Q := by
  intro n
  induction n with
  | zero => intro x1 x2 x3 x4 w5 w6 σ h; exact jw_none h
  | succ n ih =>
    intro x1 x2 x3 x4 w5 w6 σ h
    rw [f_X0_survey_b29] at h
    refine xo_1 rfl ?_
    refine xo_9 ?_
    refine xo_64 (t := jm_b1_110) rfl (fun hc1 => ?_) (fun hc1 => ?_)
    · replace h := jw_pos hc1 h
      refine xo_0 rfl ?_
      replace h := jw_some h
      exact xo_69 h
    · replace h := jw_neg hc1 h
      refine xo_8 ?_
      refine xo_0 rfl ?_
      refine xo_23 ?_
      refine xo_0 rfl ?_
      refine xo_2 rfl ?_
      refine xc_33 (i := 3520) (q := 3) hS ly55 rfl (xc_P hS (by decide)) ?_
      refine xo_49 (st' := [.int x2, .int (1 <<< (x1 &&& 31))]) rfl rfl (xc_ly hS ly3) rfl (Nat.le_of_ble_eq_true rfl) ?_
      refine t_X3_inns hS ?_
      refine jw_mono (jw_bind h) (fun q2 h => ?_)
      show jx_Ex _ _ _ _ [.int q2.1, .int x2, .int (1 <<< (x1 &&& 31))] (jh S q2.2) _
      refine xo_20 ?_
      refine xo_21 ?_
      refine xo_0 rfl ?_
      refine xo_8 ?_
      refine xo_22 ?_
      refine xo_20 ?_
      refine xo_5 (ls' := [.ref 55, .int x1, .int x2, .int x3, .int x4, .int (((1 <<< (x1 &&& 31)) ||| (x2 &&& q2.1)) &&& (x3 ^^^ (-1))), w6]) rfl ?_
      refine xo_8 ?_
      refine xo_5 (ls' := [.ref 55, .int x1, .int x2, .int x3, .int x4, .int (((1 <<< (x1 &&& 31)) ||| (x2 &&& q2.1)) &&& (x3 ^^^ (-1))), .int 0]) rfl ?_
      exact t_X0_survey_b58 hS ih 1000 h
theorem t_X0_survey_b2 {S : jS} (hS : jCok S) {d : Nat} {Q : Option Value → jx_H → Prop} : ∀ (n : Nat) {x1 : Int32} {x2 : Int32} {w3 : Value} {w4 : Value} {w5 : Value} {w6 : Value} {σ : jT}, jw (f_X0_survey_b2 n x1 x2 σ) (fun q => Q (some (.int q.1)) (jh S q.2)) → jx_Ex (d + 6) jm_l1 jm_b1_2 [.ref 55, .int x1, .int x2, w3, w4, w5, w6] [] (jh S σ) Q := by
  intro n
  induction n with
  | zero => intro x1 x2 w3 w4 w5 w6 σ h; exact jw_none h
  | succ n ih =>
    intro x1 x2 w3 w4 w5 w6 σ h
    rw [f_X0_survey_b2] at h
    refine xo_0 rfl ?_
    refine xo_10 ?_
    refine xo_64 (t := jm_b1_22) rfl (fun hc1 => ?_) (fun hc1 => ?_)
    · replace h := jw_pos hc1 h
      refine xo_8 ?_
      refine xo_4 (ls' := [.ref 55, .int x1, .int 0, w3, w4, w5, w6]) rfl ?_
      refine xo_8 ?_
      refine xo_4 (ls' := [.ref 55, .int x1, .int 0, .int 0, w4, w5, w6]) rfl ?_
      refine xo_8 ?_
      refine xo_5 (ls' := [.ref 55, .int x1, .int 0, .int 0, .int 0, w5, w6]) rfl ?_
      exact t_X0_survey_b29 hS 1000 h
    · replace h := jw_neg hc1 h
      refine xo_2 rfl ?_
      refine xc_33 (i := 3522) (q := 56) hS ly55 rfl (xc_P hS (by decide)) ?_
      refine xo_0 rfl ?_
      refine xo_8 ?_
      obtain ⟨hi2, h⟩ := jw_chk h
      refine xc_41 (j := x2.toNatClampNeg) hS ly56 ⟨Nat.le_of_ble_eq_true rfl, Nat.le_of_ble_eq_true rfl⟩ hi2 rfl ?_
      refine xo_13 (ls' := [.ref 55, .int x1, .int (x2 + 1), w3, w4, w5, w6]) rfl rfl ?_
      refine xo_54 (t := jm_b1_2) rfl ?_
      exact ih h
theorem t_X0_survey {S : jS} (hS : jCok S) {d : Nat} {Q : Option Value → jx_H → Prop} {x1 : Int32} {σ : jT} (h : jw (f_X0_survey x1 σ) (fun q => Q (some (.int q.1)) (jh S q.2))) : jx_Sp (d + 6) 1 [.ref 55, .int x1] (jh S σ) Q := by
  refine ⟨jm_i1, jm_at1, rfl, rfl, ?_⟩
  show jx_Ex _ jm_l1 jm_b1_0 [.ref 55, .int x1, .retAddr 0, .retAddr 0, .retAddr 0, .retAddr 0, .retAddr 0] [] _ _
  unfold f_X0_survey at h
  refine xo_8 ?_
  refine xo_4 (ls' := [.ref 55, .int x1, .int 0, .retAddr 0, .retAddr 0, .retAddr 0, .retAddr 0]) rfl ?_
  exact t_X0_survey_b2 hS 1000 h
/-- Atlas.beginAt, at ['x.atlas', 'int'] -/
def f_X0_beginAt_b23 (k2 : Int32 → Int32 → jT → Option (Int32 × jT)) (x1 : Int32) (x2 : Int32) (s0 : Int32) (s1 : Int32) (σ : jT) : Option (Int32 × jT) :=
  if jx_in s1 10 then
  k2 x1 (x2 + 1) (gA σ 57 s1.toNatClampNeg s0)
  else none
def f_X0_beginAt_b2 : Nat → Int32 → Int32 → jT → Option (Int32 × jT)
  | 0, _, _, _ => none
  | n + 1, x1, x2, σ =>
    if 10 ≤ x2 then
      some (0, σ)
    else
      if ¬ x2 = x1 then
        f_X0_beginAt_b23 (f_X0_beginAt_b2 n) x1 x2 (-1) x2 σ
      else
        f_X0_beginAt_b23 (f_X0_beginAt_b2 n) x1 x2 0 x2 σ
def f_X0_beginAt (x1 : Int32) (σ : jT) : Option (Int32 × jT) :=
  f_X0_beginAt_b2 1000 x1 0 σ
theorem t_X0_beginAt_b23 {S : jS} (hS : jCok S) {d : Nat} {Q : Option Value → jx_H → Prop} {k2 : Int32 → Int32 → jT → Option (Int32 × jT)} (hk2 : ∀ {x1 : Int32} {x2 : Int32} {σ : jT}, jw (k2 x1 x2 σ) (fun q => Q none (jh S q.2)) → jx_Ex (d) jm_l3 jm_b3_2 [.ref 55, .int x1, .int x2] [] (jh S σ) Q) {x1 : Int32} {x2 : Int32} {s0 : Int32} {s1 : Int32} {σ : jT} (h : jw (f_X0_beginAt_b23 k2 x1 x2 s0 s1 σ) (fun q => Q none (jh S q.2))) : jx_Ex (d) jm_l3 jm_b3_23 [.ref 55, .int x1, .int x2] [.int s0, .int s1, .ref 57] (jh S σ) Q := by
  unfold f_X0_beginAt_b23 at h
  obtain ⟨hi1, h⟩ := jw_chk h
  refine xc_41 (j := s1.toNatClampNeg) hS ly57 ⟨Nat.le_of_ble_eq_true rfl, Nat.le_of_ble_eq_true rfl⟩ hi1 rfl ?_
  refine xo_13 (ls' := [.ref 55, .int x1, .int (x2 + 1)]) rfl rfl ?_
  refine xo_54 (t := jm_b3_2) rfl ?_
  exact hk2 h
theorem t_X0_beginAt_b2 {S : jS} (hS : jCok S) {d : Nat} {Q : Option Value → jx_H → Prop} : ∀ (n : Nat) {x1 : Int32} {x2 : Int32} {σ : jT}, jw (f_X0_beginAt_b2 n x1 x2 σ) (fun q => Q none (jh S q.2)) → jx_Ex (d) jm_l3 jm_b3_2 [.ref 55, .int x1, .int x2] [] (jh S σ) Q := by
  intro n
  induction n with
  | zero => intro x1 x2 σ h; exact jw_none h
  | succ n ih =>
    intro x1 x2 σ h
    rw [f_X0_beginAt_b2] at h
    refine xo_0 rfl ?_
    refine xo_9 ?_
    refine xo_64 (t := jm_b3_30) rfl (fun hc1 => ?_) (fun hc1 => ?_)
    · replace h := jw_pos hc1 h
      replace h := jw_some h
      exact xo_71 h
    · replace h := jw_neg hc1 h
      refine xo_2 rfl ?_
      refine xc_33 (i := 3523) (q := 57) hS ly55 rfl (xc_P hS (by decide)) ?_
      refine xo_0 rfl ?_
      refine xo_0 rfl ?_
      refine xo_0 rfl ?_
      refine xo_62 (t := jm_b3_22) rfl (fun hc2 => ?_) (fun hc2 => ?_)
      · replace h := jw_pos hc2 h
        refine xo_8 ?_
        exact t_X0_beginAt_b23 hS ih h
      · replace h := jw_neg hc2 h
        refine xo_8 ?_
        refine xo_54 (t := jm_b3_23) rfl ?_
        exact t_X0_beginAt_b23 hS ih h
theorem t_X0_beginAt {S : jS} (hS : jCok S) {d : Nat} {Q : Option Value → jx_H → Prop} {x1 : Int32} {σ : jT} (h : jw (f_X0_beginAt x1 σ) (fun q => Q none (jh S q.2))) : jx_Sp (d) 3 [.ref 55, .int x1] (jh S σ) Q := by
  refine ⟨jm_i3, jm_at3, rfl, rfl, ?_⟩
  show jx_Ex _ jm_l3 jm_b3_0 [.ref 55, .int x1, .retAddr 0] [] _ _
  unfold f_X0_beginAt at h
  refine xo_8 ?_
  refine xo_4 (ls' := [.ref 55, .int x1, .int 0]) rfl ?_
  exact t_X0_beginAt_b2 hS 1000 h
/-- Atlas.farOf, at ['x.atlas', 'int'] -/
def f_X0_farOf (x1 : Int32) (σ : jT) : Option (Int32 × jT) :=
  (f_X3_hasPlace x1 σ).bind fun q1 =>
  if q1.1 = 0 then
    some ((-1), q1.2)
  else
    if jx_in x1 10 then
    some ((q1.2.2 57 x1.toNatClampNeg), q1.2)
    else none
theorem t_X0_farOf {S : jS} (hS : jCok S) {d : Nat} {Q : Option Value → jx_H → Prop} {x1 : Int32} {σ : jT} (h : jw (f_X0_farOf x1 σ) (fun q => Q (some (.int q.1)) (jh S q.2))) : jx_Sp (d + 1) 4 [.ref 55, .int x1] (jh S σ) Q := by
  refine ⟨jm_i4, jm_at4, rfl, rfl, ?_⟩
  show jx_Ex _ jm_l4 jm_b4_0 [.ref 55, .int x1] [] _ _
  unfold f_X0_farOf at h
  refine xo_2 rfl ?_
  refine xc_33 (i := 3520) (q := 3) hS ly55 rfl (xc_P hS (by decide)) ?_
  refine xo_0 rfl ?_
  refine xo_49 (st' := []) rfl rfl (xc_ly hS ly3) rfl (Nat.le_of_ble_eq_true rfl) ?_
  refine t_X3_hasPlace hS ?_
  refine jw_mono (jw_bind h) (fun q1 h => ?_)
  show jx_Ex _ _ _ _ [.int q1.1] (jh S q1.2) _
  refine xo_55 (t := jm_b4_20) rfl (fun hc2 => ?_) (fun hc2 => ?_)
  · replace h := jw_pos hc2 h
    refine xo_8 ?_
    replace h := jw_some h
    exact xo_69 h
  · replace h := jw_neg hc2 h
    refine xo_2 rfl ?_
    refine xc_33 (i := 3523) (q := 57) hS ly55 rfl (xc_P hS (by decide)) ?_
    refine xo_0 rfl ?_
    obtain ⟨hi3, h⟩ := jw_chk h
    refine xc_38 (j := x1.toNatClampNeg) (v := (q1.2.2 57 x1.toNatClampNeg)) hS ly57 ⟨Nat.le_of_ble_eq_true rfl, Nat.le_of_ble_eq_true rfl⟩ hi3 rfl rfl ?_
    refine xo_54 (t := jm_b4_21) rfl ?_
    replace h := jw_some h
    exact xo_69 h
/-- Atlas.pairTo, at ['x.atlas', 'int', 'int'] -/
def f_X0_pairTo_b15 : Nat → Int32 → Int32 → Int32 → jT → Option (Int32 × jT)
  | 0, _, _, _, _ => none
  | n + 1, x1, x2, x3, σ =>
    if 36 ≤ x3 then
      some ((-1), σ)
    else
      if jx_in ((x1 * 36) + x3) 360 then
      (f_X0_farOf (σ.2 56 ((x1 * 36) + x3).toNatClampNeg) σ).bind fun q3 =>
      if ¬ q3.1 = x2 then
        f_X0_pairTo_b15 n x1 x2 (x3 + 1) q3.2
      else
        some (x3, q3.2)
      else none
def f_X0_pairTo (x1 : Int32) (x2 : Int32) (σ : jT) : Option (Int32 × jT) :=
  (f_X3_hasPlace x1 σ).bind fun q1 =>
  if ¬ q1.1 = 0 then
    f_X0_pairTo_b15 1000 x1 x2 0 q1.2
  else
    some ((-1), q1.2)
theorem t_X0_pairTo_b15 {S : jS} (hS : jCok S) {d : Nat} {Q : Option Value → jx_H → Prop} : ∀ (n : Nat) {x1 : Int32} {x2 : Int32} {x3 : Int32} {σ : jT}, jw (f_X0_pairTo_b15 n x1 x2 x3 σ) (fun q => Q (some (.int q.1)) (jh S q.2)) → jx_Ex (d + 2) jm_l6 jm_b6_15 [.ref 55, .int x1, .int x2, .int x3] [] (jh S σ) Q := by
  intro n
  induction n with
  | zero => intro x1 x2 x3 σ h; exact jw_none h
  | succ n ih =>
    intro x1 x2 x3 σ h
    rw [f_X0_pairTo_b15] at h
    refine xo_0 rfl ?_
    refine xo_9 ?_
    refine xo_64 (t := jm_b6_48) rfl (fun hc1 => ?_) (fun hc1 => ?_)
    · replace h := jw_pos hc1 h
      refine xo_8 ?_
      replace h := jw_some h
      exact xo_69 h
    · replace h := jw_neg hc1 h
      refine xo_2 rfl ?_
      refine xo_2 rfl ?_
      refine xc_33 (i := 3522) (q := 56) hS ly55 rfl (xc_P hS (by decide)) ?_
      refine xo_0 rfl ?_
      refine xo_9 ?_
      refine xo_16 ?_
      refine xo_0 rfl ?_
      refine xo_14 ?_
      obtain ⟨hi2, h⟩ := jw_chk h
      refine xc_38 (j := ((x1 * 36) + x3).toNatClampNeg) (v := (σ.2 56 ((x1 * 36) + x3).toNatClampNeg)) hS ly56 ⟨Nat.le_of_ble_eq_true rfl, Nat.le_of_ble_eq_true rfl⟩ hi2 rfl rfl ?_
      refine xo_49 (st' := []) rfl rfl (xc_ly hS ly55) rfl (Nat.le_of_ble_eq_true rfl) ?_
      refine t_X0_farOf hS ?_
      refine jw_mono (jw_bind h) (fun q3 h => ?_)
      show jx_Ex _ _ _ _ [.int q3.1] (jh S q3.2) _
      refine xo_0 rfl ?_
      refine xo_62 (t := jm_b6_42) rfl (fun hc4 => ?_) (fun hc4 => ?_)
      · replace h := jw_pos hc4 h
        refine xo_13 (ls' := [.ref 55, .int x1, .int x2, .int (x3 + 1)]) rfl rfl ?_
        refine xo_54 (t := jm_b6_15) rfl ?_
        exact ih h
      · replace h := jw_neg hc4 h
        refine xo_0 rfl ?_
        replace h := jw_some h
        exact xo_69 h
theorem t_X0_pairTo {S : jS} (hS : jCok S) {d : Nat} {Q : Option Value → jx_H → Prop} {x1 : Int32} {x2 : Int32} {σ : jT} (h : jw (f_X0_pairTo x1 x2 σ) (fun q => Q (some (.int q.1)) (jh S q.2))) : jx_Sp (d + 2) 6 [.ref 55, .int x1, .int x2] (jh S σ) Q := by
  refine ⟨jm_i6, jm_at6, rfl, rfl, ?_⟩
  show jx_Ex _ jm_l6 jm_b6_0 [.ref 55, .int x1, .int x2, .retAddr 0] [] _ _
  unfold f_X0_pairTo at h
  refine xo_2 rfl ?_
  refine xc_33 (i := 3520) (q := 3) hS ly55 rfl (xc_P hS (by decide)) ?_
  refine xo_0 rfl ?_
  refine xo_49 (st' := []) rfl rfl (xc_ly hS ly3) rfl (Nat.le_of_ble_eq_true rfl) ?_
  refine t_X3_hasPlace hS ?_
  refine jw_mono (jw_bind h) (fun q1 h => ?_)
  show jx_Ex _ _ _ _ [.int q1.1] (jh S q1.2) _
  refine xo_56 (t := jm_b6_13) rfl (fun hc2 => ?_) (fun hc2 => ?_)
  · replace h := jw_pos hc2 h
    refine xo_8 ?_
    refine xo_4 (ls' := [.ref 55, .int x1, .int x2, .int 0]) rfl ?_
    exact t_X0_pairTo_b15 hS 1000 h
  · replace h := jw_neg hc2 h
    refine xo_8 ?_
    replace h := jw_some h
    exact xo_69 h
/-- Atlas.wayTo, at ['x.atlas', 'int', 'int'] -/
def f_X0_wayTo_b2 : Nat → Int32 → Int32 → Int32 → jT → Option (Int32 × jT)
  | 0, _, _, _, _ => none
  | n + 1, x1, x2, x3, σ =>
    (f_X3_waysAt x1 σ).bind fun q1 =>
    if q1.1 ≤ x3 then
      some ((-1), q1.2)
    else
      (f_X3_leadsTo x1 x3 q1.2).bind fun q3 =>
      (f_X0_farOf q3.1 q3.2).bind fun q4 =>
      if ¬ q4.1 = x2 then
        f_X0_wayTo_b2 n x1 x2 (x3 + 1) q4.2
      else
        some (x3, q4.2)
def f_X0_wayTo (x1 : Int32) (x2 : Int32) (σ : jT) : Option (Int32 × jT) :=
  f_X0_wayTo_b2 1000 x1 x2 0 σ
theorem t_X0_wayTo_b2 {S : jS} (hS : jCok S) {d : Nat} {Q : Option Value → jx_H → Prop} : ∀ (n : Nat) {x1 : Int32} {x2 : Int32} {x3 : Int32} {σ : jT}, jw (f_X0_wayTo_b2 n x1 x2 x3 σ) (fun q => Q (some (.int q.1)) (jh S q.2)) → jx_Ex (d + 2) jm_l8 jm_b8_2 [.ref 55, .int x1, .int x2, .int x3] [] (jh S σ) Q := by
  intro n
  induction n with
  | zero => intro x1 x2 x3 σ h; exact jw_none h
  | succ n ih =>
    intro x1 x2 x3 σ h
    rw [f_X0_wayTo_b2] at h
    refine xo_0 rfl ?_
    refine xo_2 rfl ?_
    refine xc_33 (i := 3520) (q := 3) hS ly55 rfl (xc_P hS (by decide)) ?_
    refine xo_0 rfl ?_
    refine xo_49 (st' := [.int x3]) rfl rfl (xc_ly hS ly3) rfl (Nat.le_of_ble_eq_true rfl) ?_
    refine t_X3_waysAt hS ?_
    refine jw_mono (jw_bind h) (fun q1 h => ?_)
    show jx_Ex _ _ _ _ [.int q1.1, .int x3] (jh S q1.2) _
    refine xo_64 (t := jm_b8_39) rfl (fun hc2 => ?_) (fun hc2 => ?_)
    · replace h := jw_pos hc2 h
      refine xo_8 ?_
      replace h := jw_some h
      exact xo_69 h
    · replace h := jw_neg hc2 h
      refine xo_2 rfl ?_
      refine xo_2 rfl ?_
      refine xc_33 (i := 3520) (q := 3) hS ly55 rfl (xc_P hS (by decide)) ?_
      refine xo_0 rfl ?_
      refine xo_0 rfl ?_
      refine xo_49 (st' := [.ref 55]) rfl rfl (xc_ly hS ly3) rfl (Nat.le_of_ble_eq_true rfl) ?_
      refine t_X3_leadsTo hS ?_
      refine jw_mono (jw_bind h) (fun q3 h => ?_)
      show jx_Ex _ _ _ _ [.int q3.1, .ref 55] (jh S q3.2) _
      refine xo_49 (st' := []) rfl rfl (xc_ly hS ly55) rfl (Nat.le_of_ble_eq_true rfl) ?_
      refine t_X0_farOf hS ?_
      refine jw_mono (jw_bind h) (fun q4 h => ?_)
      show jx_Ex _ _ _ _ [.int q4.1] (jh S q4.2) _
      refine xo_0 rfl ?_
      refine xo_62 (t := jm_b8_33) rfl (fun hc5 => ?_) (fun hc5 => ?_)
      · replace h := jw_pos hc5 h
        refine xo_13 (ls' := [.ref 55, .int x1, .int x2, .int (x3 + 1)]) rfl rfl ?_
        refine xo_54 (t := jm_b8_2) rfl ?_
        exact ih h
      · replace h := jw_neg hc5 h
        refine xo_0 rfl ?_
        replace h := jw_some h
        exact xo_69 h
theorem t_X0_wayTo {S : jS} (hS : jCok S) {d : Nat} {Q : Option Value → jx_H → Prop} {x1 : Int32} {x2 : Int32} {σ : jT} (h : jw (f_X0_wayTo x1 x2 σ) (fun q => Q (some (.int q.1)) (jh S q.2))) : jx_Sp (d + 2) 8 [.ref 55, .int x1, .int x2] (jh S σ) Q := by
  refine ⟨jm_i8, jm_at8, rfl, rfl, ?_⟩
  show jx_Ex _ jm_l8 jm_b8_0 [.ref 55, .int x1, .int x2, .retAddr 0] [] _ _
  unfold f_X0_wayTo at h
  refine xo_8 ?_
  refine xo_4 (ls' := [.ref 55, .int x1, .int x2, .int 0]) rfl ?_
  exact t_X0_wayTo_b2 hS 1000 h
/-- Atlas.fewest, at ['x.atlas', 'int', 'int', 'int'] -/
def f_X0_fewest_b89 (k18 : Int32 → Int32 → Int32 → Int32 → jT → Option (Int32 × jT)) (x1 : Int32) (x3 : Int32) (x4 : Int32) (x5 : Int32) (σ : jT) : Option (Int32 × jT) :=
  k18 x1 x3 x4 (x5 + 1) σ
def f_X0_fewest_b88 (k18 : Int32 → Int32 → Int32 → Int32 → jT → Option (Int32 × jT)) (x1 : Int32) (x3 : Int32) (x4 : Int32) (x5 : Int32) (s0 : Int32) (s1 : Int32) (σ : jT) : Option (Int32 × jT) :=
  if jx_in s1 10 then
  f_X0_fewest_b89 k18 x1 x3 x4 x5 (gA σ 57 s1.toNatClampNeg s0)
  else none
def f_X0_fewest_b68 (k18 : Int32 → Int32 → Int32 → Int32 → jT → Option (Int32 × jT)) (x1 : Int32) (x3 : Int32) (x4 : Int32) (x5 : Int32) (s0 : Int32) (σ : jT) : Option (Int32 × jT) :=
  if ¬ s0 = (-1) then
    f_X0_fewest_b88 k18 x1 x3 x4 x5 x4 x5 σ
  else
    f_X0_fewest_b88 k18 x1 x3 x4 x5 (-1) x5 σ
def f_X0_fewest_b18 (k8 : Int32 → Int32 → Int32 → jT → Option (Int32 × jT)) : Nat → Int32 → Int32 → Int32 → Int32 → jT → Option (Int32 × jT)
  | 0, _, _, _, _, _ => none
  | n + 1, x1, x3, x4, x5, σ =>
    (f_X3_places σ).bind fun q1 =>
    if q1.1 ≤ x5 then
      k8 x1 x3 (x4 + 1) q1.2
    else
      if jx_in x5 10 then
      if ¬ (q1.2.2 57 x5.toNatClampNeg) = (-1) then
        f_X0_fewest_b89 (f_X0_fewest_b18 k8 n) x1 x3 x4 x5 q1.2
      else
        if x3 = 0 then
          (f_X0_pairTo x5 (x4 - 1) q1.2).bind fun q6 =>
          f_X0_fewest_b68 (f_X0_fewest_b18 k8 n) x1 x3 x4 x5 q6.1 q6.2
        else
          (f_X0_wayTo x5 (x4 - 1) q1.2).bind fun q7 =>
          f_X0_fewest_b68 (f_X0_fewest_b18 k8 n) x1 x3 x4 x5 q7.1 q7.2
      else none
def f_X0_fewest_b8 : Nat → Int32 → Int32 → Int32 → jT → Option (Int32 × jT)
  | 0, _, _, _, _ => none
  | n + 1, x1, x3, x4, σ =>
    if 10 ≤ x4 then
      (f_X0_farOf x1 σ).bind fun q2 =>
      some (q2.1, q2.2)
    else
      f_X0_fewest_b18 (f_X0_fewest_b8 n) 1000 x1 x3 x4 0 σ
def f_X0_fewest (x1 : Int32) (x2 : Int32) (x3 : Int32) (σ : jT) : Option (Int32 × jT) :=
  (f_X0_beginAt x2 σ).bind fun q1 =>
  f_X0_fewest_b8 1000 x1 x3 1 q1.2
theorem t_X0_fewest_b89 {S : jS} (hS : jCok S) {d : Nat} {Q : Option Value → jx_H → Prop} {k18 : Int32 → Int32 → Int32 → Int32 → jT → Option (Int32 × jT)} (hk18 : ∀ {x1 : Int32} {x3 : Int32} {x4 : Int32} {x5 : Int32} {w2 : Value} {w6 : Value} {σ : jT}, jw (k18 x1 x3 x4 x5 σ) (fun q => Q (some (.int q.1)) (jh S q.2)) → jx_Ex (d + 3) jm_l5 jm_b5_18 [.ref 55, .int x1, w2, .int x3, .int x4, .int x5, w6] [] (jh S σ) Q) {x1 : Int32} {x3 : Int32} {x4 : Int32} {x5 : Int32} {w2 : Value} {w6 : Value} {σ : jT} (h : jw (f_X0_fewest_b89 k18 x1 x3 x4 x5 σ) (fun q => Q (some (.int q.1)) (jh S q.2))) : jx_Ex (d + 3) jm_l5 jm_b5_89 [.ref 55, .int x1, w2, .int x3, .int x4, .int x5, w6] [] (jh S σ) Q := by
  unfold f_X0_fewest_b89 at h
  refine xo_13 (ls' := [.ref 55, .int x1, w2, .int x3, .int x4, .int (x5 + 1), w6]) rfl rfl ?_
  refine xo_54 (t := jm_b5_18) rfl ?_
  exact hk18 h
theorem t_X0_fewest_b88 {S : jS} (hS : jCok S) {d : Nat} {Q : Option Value → jx_H → Prop} {k18 : Int32 → Int32 → Int32 → Int32 → jT → Option (Int32 × jT)} (hk18 : ∀ {x1 : Int32} {x3 : Int32} {x4 : Int32} {x5 : Int32} {w2 : Value} {w6 : Value} {σ : jT}, jw (k18 x1 x3 x4 x5 σ) (fun q => Q (some (.int q.1)) (jh S q.2)) → jx_Ex (d + 3) jm_l5 jm_b5_18 [.ref 55, .int x1, w2, .int x3, .int x4, .int x5, w6] [] (jh S σ) Q) {x1 : Int32} {x3 : Int32} {x4 : Int32} {x5 : Int32} {s0 : Int32} {s1 : Int32} {w2 : Value} {w6 : Value} {σ : jT} (h : jw (f_X0_fewest_b88 k18 x1 x3 x4 x5 s0 s1 σ) (fun q => Q (some (.int q.1)) (jh S q.2))) : jx_Ex (d + 3) jm_l5 jm_b5_88 [.ref 55, .int x1, w2, .int x3, .int x4, .int x5, w6] [.int s0, .int s1, .ref 57] (jh S σ) Q := by
  unfold f_X0_fewest_b88 at h
  obtain ⟨hi1, h⟩ := jw_chk h
  refine xc_41 (j := s1.toNatClampNeg) hS ly57 ⟨Nat.le_of_ble_eq_true rfl, Nat.le_of_ble_eq_true rfl⟩ hi1 rfl ?_
  exact t_X0_fewest_b89 hS hk18 h
theorem t_X0_fewest_b68 {S : jS} (hS : jCok S) {d : Nat} {Q : Option Value → jx_H → Prop} {k18 : Int32 → Int32 → Int32 → Int32 → jT → Option (Int32 × jT)} (hk18 : ∀ {x1 : Int32} {x3 : Int32} {x4 : Int32} {x5 : Int32} {w2 : Value} {w6 : Value} {σ : jT}, jw (k18 x1 x3 x4 x5 σ) (fun q => Q (some (.int q.1)) (jh S q.2)) → jx_Ex (d + 3) jm_l5 jm_b5_18 [.ref 55, .int x1, w2, .int x3, .int x4, .int x5, w6] [] (jh S σ) Q) {x1 : Int32} {x3 : Int32} {x4 : Int32} {x5 : Int32} {s0 : Int32} {w2 : Value} {w6 : Value} {σ : jT} (h : jw (f_X0_fewest_b68 k18 x1 x3 x4 x5 s0 σ) (fun q => Q (some (.int q.1)) (jh S q.2))) : jx_Ex (d + 3) jm_l5 jm_b5_68 [.ref 55, .int x1, w2, .int x3, .int x4, .int x5, w6] [.int s0] (jh S σ) Q := by
  unfold f_X0_fewest_b68 at h
  refine xo_5 (ls' := [.ref 55, .int x1, w2, .int x3, .int x4, .int x5, .int s0]) rfl ?_
  refine xo_2 rfl ?_
  refine xc_33 (i := 3523) (q := 57) hS ly55 rfl (xc_P hS (by decide)) ?_
  refine xo_1 rfl ?_
  refine xo_1 rfl ?_
  refine xo_8 ?_
  refine xo_62 (t := jm_b5_86) rfl (fun hc1 => ?_) (fun hc1 => ?_)
  · replace h := jw_pos hc1 h
    refine xo_1 rfl ?_
    exact t_X0_fewest_b88 hS hk18 h
  · replace h := jw_neg hc1 h
    refine xo_8 ?_
    refine xo_54 (t := jm_b5_88) rfl ?_
    exact t_X0_fewest_b88 hS hk18 h
theorem t_X0_fewest_b18 {S : jS} (hS : jCok S) {d : Nat} {Q : Option Value → jx_H → Prop} {k8 : Int32 → Int32 → Int32 → jT → Option (Int32 × jT)} (hk8 : ∀ {x1 : Int32} {x3 : Int32} {x4 : Int32} {w2 : Value} {w5 : Value} {w6 : Value} {σ : jT}, jw (k8 x1 x3 x4 σ) (fun q => Q (some (.int q.1)) (jh S q.2)) → jx_Ex (d + 3) jm_l5 jm_b5_8 [.ref 55, .int x1, w2, .int x3, .int x4, w5, w6] [] (jh S σ) Q) : ∀ (n : Nat) {x1 : Int32} {x3 : Int32} {x4 : Int32} {x5 : Int32} {w2 : Value} {w6 : Value} {σ : jT}, jw (f_X0_fewest_b18 k8 n x1 x3 x4 x5 σ) (fun q => Q (some (.int q.1)) (jh S q.2)) → jx_Ex (d + 3) jm_l5 jm_b5_18 [.ref 55, .int x1, w2, .int x3, .int x4, .int x5, w6] [] (jh S σ) Q := by
  intro n
  induction n with
  | zero => intro x1 x3 x4 x5 w2 w6 σ h; exact jw_none h
  | succ n ih =>
    intro x1 x3 x4 x5 w2 w6 σ h
    rw [f_X0_fewest_b18] at h
    refine xo_1 rfl ?_
    refine xo_2 rfl ?_
    refine xc_33 (i := 3520) (q := 3) hS ly55 rfl (xc_P hS (by decide)) ?_
    refine xo_49 (st' := [.int x5]) rfl rfl (xc_ly hS ly3) rfl (Nat.le_of_ble_eq_true rfl) ?_
    refine t_X3_places hS ?_
    refine jw_mono (jw_bind h) (fun q1 h => ?_)
    show jx_Ex _ _ _ _ [.int q1.1, .int x5] (jh S q1.2) _
    refine xo_64 (t := jm_b5_95) rfl (fun hc2 => ?_) (fun hc2 => ?_)
    · replace h := jw_pos hc2 h
      refine xo_13 (ls' := [.ref 55, .int x1, w2, .int x3, .int (x4 + 1), .int x5, w6]) rfl rfl ?_
      refine xo_54 (t := jm_b5_8) rfl ?_
      exact hk8 h
    · replace h := jw_neg hc2 h
      refine xo_2 rfl ?_
      refine xc_33 (i := 3523) (q := 57) hS ly55 rfl (xc_P hS (by decide)) ?_
      refine xo_1 rfl ?_
      obtain ⟨hi3, h⟩ := jw_chk h
      refine xc_38 (j := x5.toNatClampNeg) (v := (q1.2.2 57 x5.toNatClampNeg)) hS ly57 ⟨Nat.le_of_ble_eq_true rfl, Nat.le_of_ble_eq_true rfl⟩ hi3 rfl rfl ?_
      refine xo_8 ?_
      refine xo_62 (t := jm_b5_89) rfl (fun hc4 => ?_) (fun hc4 => ?_)
      · replace h := jw_pos hc4 h
        exact t_X0_fewest_b89 hS ih h
      · replace h := jw_neg hc4 h
        refine xo_0 rfl ?_
        refine xo_55 (t := jm_b5_58) rfl (fun hc5 => ?_) (fun hc5 => ?_)
        · replace h := jw_pos hc5 h
          refine xo_2 rfl ?_
          refine xo_1 rfl ?_
          refine xo_1 rfl ?_
          refine xo_8 ?_
          refine xo_15 ?_
          refine xo_49 (st' := []) rfl rfl (xc_ly hS ly55) rfl (Nat.le_of_ble_eq_true rfl) ?_
          refine t_X0_pairTo hS ?_
          refine jw_mono (jw_bind h) (fun q6 h => ?_)
          show jx_Ex _ _ _ _ [.int q6.1] (jh S q6.2) _
          exact t_X0_fewest_b68 hS ih h
        · replace h := jw_neg hc5 h
          refine xo_2 rfl ?_
          refine xo_1 rfl ?_
          refine xo_1 rfl ?_
          refine xo_8 ?_
          refine xo_15 ?_
          refine xo_49 (st' := []) rfl rfl (xc_ly hS ly55) rfl (Nat.le_of_ble_eq_true rfl) ?_
          refine t_X0_wayTo hS ?_
          refine jw_mono (jw_bind h) (fun q7 h => ?_)
          show jx_Ex _ _ _ _ [.int q7.1] (jh S q7.2) _
          refine xo_54 (t := jm_b5_68) rfl ?_
          exact t_X0_fewest_b68 hS ih h
theorem t_X0_fewest_b8 {S : jS} (hS : jCok S) {d : Nat} {Q : Option Value → jx_H → Prop} : ∀ (n : Nat) {x1 : Int32} {x3 : Int32} {x4 : Int32} {w2 : Value} {w5 : Value} {w6 : Value} {σ : jT}, jw (f_X0_fewest_b8 n x1 x3 x4 σ) (fun q => Q (some (.int q.1)) (jh S q.2)) → jx_Ex (d + 3) jm_l5 jm_b5_8 [.ref 55, .int x1, w2, .int x3, .int x4, w5, w6] [] (jh S σ) Q := by
  intro n
  induction n with
  | zero => intro x1 x3 x4 w2 w5 w6 σ h; exact jw_none h
  | succ n ih =>
    intro x1 x3 x4 w2 w5 w6 σ h
    rw [f_X0_fewest_b8] at h
    refine xo_1 rfl ?_
    refine xo_9 ?_
    refine xo_64 (t := jm_b5_101) rfl (fun hc1 => ?_) (fun hc1 => ?_)
    · replace h := jw_pos hc1 h
      refine xo_2 rfl ?_
      refine xo_0 rfl ?_
      refine xo_49 (st' := []) rfl rfl (xc_ly hS ly55) rfl (Nat.le_of_ble_eq_true rfl) ?_
      refine t_X0_farOf hS ?_
      refine jw_mono (jw_bind h) (fun q2 h => ?_)
      show jx_Ex _ _ _ _ [.int q2.1] (jh S q2.2) _
      replace h := jw_some h
      exact xo_69 h
    · replace h := jw_neg hc1 h
      refine xo_8 ?_
      refine xo_5 (ls' := [.ref 55, .int x1, w2, .int x3, .int x4, .int 0, w6]) rfl ?_
      exact t_X0_fewest_b18 hS ih 1000 h
theorem t_X0_fewest {S : jS} (hS : jCok S) {d : Nat} {Q : Option Value → jx_H → Prop} {x1 : Int32} {x2 : Int32} {x3 : Int32} {σ : jT} (h : jw (f_X0_fewest x1 x2 x3 σ) (fun q => Q (some (.int q.1)) (jh S q.2))) : jx_Sp (d + 3) 5 [.ref 55, .int x1, .int x2, .int x3] (jh S σ) Q := by
  refine ⟨jm_i5, jm_at5, rfl, rfl, ?_⟩
  show jx_Ex _ jm_l5 jm_b5_0 [.ref 55, .int x1, .int x2, .int x3, .retAddr 0, .retAddr 0, .retAddr 0] [] _ _
  unfold f_X0_fewest at h
  refine xo_2 rfl ?_
  refine xo_0 rfl ?_
  refine xo_49 (st' := []) rfl rfl (xc_ly hS ly55) rfl (Nat.le_of_ble_eq_true rfl) ?_
  refine t_X0_beginAt hS ?_
  refine jw_mono (jw_bind h) (fun q1 h => ?_)
  show jx_Ex _ _ _ _ [] (jh S q1.2) _
  refine xo_8 ?_
  refine xo_5 (ls' := [.ref 55, .int x1, .int x2, .int x3, .int 1, .retAddr 0, .retAddr 0]) rfl ?_
  exact t_X0_fewest_b8 hS 1000 h
