/-! ===== the methods that may throw, behind their tests ===== -/
def jm_b1135_96 : List jx_E := (96, 2, (0, 0, 0, 0), 0, []) :: (97, 33, (10, 1, 0, 19), 0, []) :: (100, 0, (1, 0, 0, 0), 0, []) :: (101, 0, (2, 0, 0, 0), 0, []) :: (102, 8, (0, 0, 0, 0), 1, []) :: (103, 15, (0, 0, 0, 0), 0, []) :: (104, 49, (35, 3, 3, 180), 0, []) :: (107, 69, (0, 0, 0, 0), 0, []) :: []
def jm_b1135_90 : List jx_E := (90, 2, (0, 0, 0, 0), 0, []) :: (91, 0, (1, 0, 0, 0), 0, []) :: (92, 49, (136, 2, 10, 177), 0, []) :: (95, 69, (0, 0, 0, 0), 0, []) :: []
def jm_b1135_89 : List jx_E := (89, 69, (0, 0, 0, 0), 0, []) :: []
def jm_b1135_88 : List jx_E := (88, 8, (0, 0, 0, 0), 0, []) :: jm_b1135_89
def jm_b1135_73 : List jx_E := (73, 2, (0, 0, 0, 0), 0, []) :: (74, 33, (10, 1, 0, 19), 0, []) :: (77, 0, (1, 0, 0, 0), 0, []) :: (78, 49, (34, 2, 3, 174), 0, []) :: (81, 55, (88, 0, 0, 0), 0, []) :: (84, 8, (0, 0, 0, 0), 1, []) :: (85, 54, (89, 0, 0, 0), 0, []) :: []
def jm_b1135_64 : List jx_E := (64, 2, (0, 0, 0, 0), 0, []) :: (65, 33, (10, 1, 0, 19), 0, []) :: (68, 0, (1, 0, 0, 0), 0, []) :: (69, 49, (33, 2, 3, 171), 0, []) :: (72, 69, (0, 0, 0, 0), 0, []) :: []
def jm_b1135_30 : List jx_E := (30, 0, (2, 0, 0, 0), 0, []) :: (31, 68, (96, 0, 0, 33), 0, [(0, 64), (4, 73), (5, 90)]) :: []
def jm_l1135 : jx_B := [(30, jm_b1135_30), (64, jm_b1135_64), (73, jm_b1135_73), (88, jm_b1135_88), (89, jm_b1135_89), (90, jm_b1135_90), (96, jm_b1135_96)]
def jm_i1135 : jx_M := (⟨"OfDifferentMinds", "place", "(II)I"⟩, prog_1_method_8_code, 3, (some .int), 0, 3, 10, jm_l1135)
theorem jm_ok1135 : jx_okM 135 jm_i1135 := ⟨jm_ok135.1, jm_ok135.2.1, jm_ok135.2.2.1, jm_ok135.2.2.2.1, jm_ok135.2.2.2.2.1, jm_ok135.2.2.2.2.2.1, jm_ok135.2.2.2.2.2.2.1, jm_ok135.2.2.2.2.2.2.2.1, jm_ok135.2.2.2.2.2.2.2.2.1, jm_ok135.2.2.2.2.2.2.2.2.2.1, by decide, by decide, by decide, by decide +kernel, by decide +kernel⟩
def jm_b1137_130 : List jx_E := (130, 69, (0, 0, 0, 0), 0, []) :: []
def jm_b1137_129 : List jx_E := (129, 8, (0, 0, 0, 0), 0, []) :: jm_b1137_130
def jm_b1137_114 : List jx_E := (114, 2, (0, 0, 0, 0), 0, []) :: (115, 33, (10, 3, 0, 33), 0, []) :: (118, 0, (1, 0, 0, 0), 0, []) :: (119, 49, (110, 2, 8, 203), 0, []) :: (122, 55, (129, 0, 0, 0), 0, []) :: (125, 8, (0, 0, 0, 0), 1, []) :: (126, 54, (130, 0, 0, 0), 0, []) :: []
def jm_b1137_100 : List jx_E := (100, 2, (0, 0, 0, 0), 0, []) :: (101, 0, (1, 0, 0, 0), 0, []) :: (102, 2, (0, 0, 0, 0), 0, []) :: (103, 33, (10, 3, 0, 33), 0, []) :: (106, 0, (1, 0, 0, 0), 0, []) :: (107, 49, (95, 2, 8, 183), 0, []) :: (110, 49, (138, 3, 10, 200), 0, []) :: (113, 69, (0, 0, 0, 0), 0, []) :: []
def jm_b1137_91 : List jx_E := (91, 2, (0, 0, 0, 0), 0, []) :: (92, 33, (10, 3, 0, 33), 0, []) :: (95, 0, (1, 0, 0, 0), 0, []) :: (96, 49, (97, 2, 8, 197), 0, []) :: (99, 69, (0, 0, 0, 0), 0, []) :: []
def jm_b1137_82 : List jx_E := (82, 2, (0, 0, 0, 0), 0, []) :: (83, 33, (10, 3, 0, 33), 0, []) :: (86, 0, (1, 0, 0, 0), 0, []) :: (87, 49, (95, 2, 8, 183), 0, []) :: (90, 69, (0, 0, 0, 0), 0, []) :: []
def jm_b1137_73 : List jx_E := (73, 2, (0, 0, 0, 0), 0, []) :: (74, 33, (10, 3, 0, 33), 0, []) :: (77, 0, (1, 0, 0, 0), 0, []) :: (78, 49, (93, 2, 8, 194), 0, []) :: (81, 69, (0, 0, 0, 0), 0, []) :: []
def jm_b1137_64 : List jx_E := (64, 2, (0, 0, 0, 0), 0, []) :: (65, 33, (10, 1, 0, 19), 0, []) :: (68, 0, (1, 0, 0, 0), 0, []) :: (69, 49, (37, 2, 3, 191), 0, []) :: (72, 69, (0, 0, 0, 0), 0, []) :: []
def jm_b1137_30 : List jx_E := (30, 0, (2, 0, 0, 0), 0, []) :: (31, 67, (114, 0, 0, 33), 0, [(0, 64), (1, 73), (2, 82), (3, 91), (4, 100)]) :: []
def jm_l1137 : jx_B := [(30, jm_b1137_30), (64, jm_b1137_64), (73, jm_b1137_73), (82, jm_b1137_82), (91, jm_b1137_91), (100, jm_b1137_100), (114, jm_b1137_114), (129, jm_b1137_129), (130, jm_b1137_130)]
def jm_i1137 : jx_M := (⟨"OfDifferentMinds", "rider", "(II)I"⟩, prog_1_method_10_code, 3, (some .int), 0, 3, 10, jm_l1137)
theorem jm_ok1137 : jx_okM 137 jm_i1137 := ⟨jm_ok137.1, jm_ok137.2.1, jm_ok137.2.2.1, jm_ok137.2.2.2.1, jm_ok137.2.2.2.2.1, jm_ok137.2.2.2.2.2.1, jm_ok137.2.2.2.2.2.2.1, jm_ok137.2.2.2.2.2.2.2.1, jm_ok137.2.2.2.2.2.2.2.2.1, jm_ok137.2.2.2.2.2.2.2.2.2.1, by decide, by decide, by decide, by decide +kernel, by decide +kernel⟩
def jm_b1198_26 : List jx_E := (26, 2, (0, 0, 0, 0), 0, []) :: (27, 33, (10, 5, 0, 47), 0, []) :: (30, 0, (1, 0, 0, 0), 0, []) :: (31, 49, (74, 2, 6, 429), 0, []) :: (34, 69, (0, 0, 0, 0), 0, []) :: []
def jm_l1198 : jx_B := [(26, jm_b1198_26)]
def jm_i1198 : jx_M := (⟨"OfDifferentMinds", "row", "(I)I"⟩, prog_1_method_71_code, 2, (some .int), 0, 2, 10, jm_l1198)
theorem jm_ok1198 : jx_okM 198 jm_i1198 := ⟨jm_ok198.1, jm_ok198.2.1, jm_ok198.2.2.1, jm_ok198.2.2.2.1, jm_ok198.2.2.2.2.1, jm_ok198.2.2.2.2.2.1, jm_ok198.2.2.2.2.2.2.1, jm_ok198.2.2.2.2.2.2.2.1, jm_ok198.2.2.2.2.2.2.2.2.1, jm_ok198.2.2.2.2.2.2.2.2.2.1, by decide, by decide, by decide, by decide +kernel, by decide +kernel⟩
/-- OfDifferentMinds.ridersAt, at ['x', 'int'] -/
def f_X10_ridersAt_b33 (k4 : Int32 → Int32 → Int32 → jT → Option (Int32 × jT)) (x1 : Int32) (x2 : Int32) (x3 : Int32) (σ : jT) : Option (Int32 × jT) :=
  k4 x1 x2 (x3 + 1) σ
def f_X10_ridersAt_b4 : Nat → Int32 → Int32 → Int32 → jT → Option (Int32 × jT)
  | 0, _, _, _, _ => none
  | n + 1, x1, x2, x3, σ =>
    (f_X3_riderCount σ).bind fun q1 =>
    if q1.1 ≤ x3 then
      some (x2, q1.2)
    else
      (f_X8_placeOf x3 q1.2).bind fun q3 =>
      if ¬ q3.1 = x1 then
        f_X10_ridersAt_b33 (f_X10_ridersAt_b4 n) x1 x2 x3 q3.2
      else
        f_X10_ridersAt_b33 (f_X10_ridersAt_b4 n) x1 (x2 ||| (1 <<< (x3 &&& 31))) x3 q3.2
def f_X10_ridersAt (x1 : Int32) (σ : jT) : Option (Int32 × jT) :=
  f_X10_ridersAt_b4 1000 x1 0 0 σ
theorem t_X10_ridersAt_b33 {S : jS} (hS : jCok S) {d : Nat} {Q : Option Value → jx_H → Prop} {k4 : Int32 → Int32 → Int32 → jT → Option (Int32 × jT)} (hk4 : ∀ {x1 : Int32} {x2 : Int32} {x3 : Int32} {σ : jT}, jw (k4 x1 x2 x3 σ) (fun q => Q (some (.int q.1)) (jh S q.2)) → jx_Ex (d + 2) jm_l136 jm_b136_4 [.ref 0, .int x1, .int x2, .int x3] [] (jh S σ) Q) {x1 : Int32} {x2 : Int32} {x3 : Int32} {σ : jT} (h : jw (f_X10_ridersAt_b33 k4 x1 x2 x3 σ) (fun q => Q (some (.int q.1)) (jh S q.2))) : jx_Ex (d + 2) jm_l136 jm_b136_33 [.ref 0, .int x1, .int x2, .int x3] [] (jh S σ) Q := by
  unfold f_X10_ridersAt_b33 at h
  refine xo_13 (ls' := [.ref 0, .int x1, .int x2, .int (x3 + 1)]) rfl rfl ?_
  refine xo_54 (t := jm_b136_4) rfl ?_
  exact hk4 h
theorem t_X10_ridersAt_b4 {S : jS} (hS : jCok S) {d : Nat} {Q : Option Value → jx_H → Prop} : ∀ (n : Nat) {x1 : Int32} {x2 : Int32} {x3 : Int32} {σ : jT}, jw (f_X10_ridersAt_b4 n x1 x2 x3 σ) (fun q => Q (some (.int q.1)) (jh S q.2)) → jx_Ex (d + 2) jm_l136 jm_b136_4 [.ref 0, .int x1, .int x2, .int x3] [] (jh S σ) Q := by
  intro n
  induction n with
  | zero => intro x1 x2 x3 σ h; exact jw_none h
  | succ n ih =>
    intro x1 x2 x3 σ h
    rw [f_X10_ridersAt_b4] at h
    refine xo_0 rfl ?_
    refine xo_2 rfl ?_
    refine xc_33 (i := 1) (q := 3) hS ly0 rfl (xc_P hS (by decide)) ?_
    refine xo_49 (st' := [.int x3]) rfl rfl (xc_ly hS ly3) rfl (Nat.le_of_ble_eq_true rfl) ?_
    refine t_X3_riderCount hS ?_
    refine jw_mono (jw_bind h) (fun q1 h => ?_)
    show jx_Ex _ _ _ _ [.int q1.1, .int x3] (jh S q1.2) _
    refine xo_64 (t := jm_b136_39) rfl (fun hc2 => ?_) (fun hc2 => ?_)
    · replace h := jw_pos hc2 h
      refine xo_0 rfl ?_
      replace h := jw_some h
      exact xo_69 h
    · replace h := jw_neg hc2 h
      refine xo_2 rfl ?_
      refine xc_33 (i := 3) (q := 12) hS ly0 rfl (xc_P hS (by decide)) ?_
      refine xo_0 rfl ?_
      refine xo_49 (st' := []) rfl rfl (xc_ly hS ly12) rfl (Nat.le_of_ble_eq_true rfl) ?_
      refine t_X8_placeOf hS ?_
      refine jw_mono (jw_bind h) (fun q3 h => ?_)
      show jx_Ex _ _ _ _ [.int q3.1] (jh S q3.2) _
      refine xo_0 rfl ?_
      refine xo_62 (t := jm_b136_33) rfl (fun hc4 => ?_) (fun hc4 => ?_)
      · replace h := jw_pos hc4 h
        exact t_X10_ridersAt_b33 hS ih h
      · replace h := jw_neg hc4 h
        refine xo_0 rfl ?_
        refine xo_8 ?_
        refine xo_0 rfl ?_
        refine xo_23 ?_
        refine xo_21 ?_
        refine xo_4 (ls' := [.ref 0, .int x1, .int (x2 ||| (1 <<< (x3 &&& 31))), .int x3]) rfl ?_
        exact t_X10_ridersAt_b33 hS ih h
theorem t_X10_ridersAt {S : jS} (hS : jCok S) {d : Nat} {Q : Option Value → jx_H → Prop} {x1 : Int32} {σ : jT} (h : jw (f_X10_ridersAt x1 σ) (fun q => Q (some (.int q.1)) (jh S q.2))) : jx_Sp (d + 2) 136 [.ref 0, .int x1] (jh S σ) Q := by
  refine ⟨jm_i136, jm_at136, rfl, rfl, ?_⟩
  show jx_Ex _ jm_l136 jm_b136_0 [.ref 0, .int x1, .retAddr 0, .retAddr 0] [] _ _
  unfold f_X10_ridersAt at h
  refine xo_8 ?_
  refine xo_4 (ls' := [.ref 0, .int x1, .int 0, .retAddr 0]) rfl ?_
  refine xo_8 ?_
  refine xo_4 (ls' := [.ref 0, .int x1, .int 0, .int 0]) rfl ?_
  exact t_X10_ridersAt_b4 hS 1000 h
/-- OfDifferentMinds.place, at ['x', 'int', 'int'] -/
def f_X10_placeGood (x1 : Int32) (x2 : Int32) (σ : jT) : Option (Int32 × jT) :=
  if x2 = 0 then
    (f_X3_waysAt x1 σ).bind fun q2 =>
    some (q2.1, q2.2)
  else
  if x2 = 4 then
    (f_X3_isInn x1 σ).bind fun q4 =>
    if q4.1 = 0 then
      some (0, q4.2)
    else
      some (1, q4.2)
  else
  if x2 = 5 then
    (f_X10_ridersAt x1 σ).bind fun q7 =>
    some (q7.1, q7.2)
  else
  (f_X3_leadsTo x1 (x2 - 1) σ).bind fun q8 =>
  some (q8.1, q8.2)
theorem t_X10_placeGood {S : jS} (hS : jCok S) {d : Nat} {Q : Option Value → jx_H → Prop} {x1 : Int32} {x2 : Int32} {σ : jT} (h : jw (f_X10_placeGood x1 x2 σ) (fun q => Q (some (.int q.1)) (jh S q.2))) : jx_Ex (d + 3) jm_l1135 jm_b1135_30 [.ref 0, .int x1, .int x2] [] (jh S σ) Q := by
  unfold f_X10_placeGood at h
  refine xo_0 rfl ?_
  refine xo_68 ?_
  refine xo_swc (tb := jm_b1135_64) rfl (fun hc1 => ?_) (fun hc1 => ?_)
  · replace h := jw_pos hc1 h
    refine xo_2 rfl ?_
    refine xc_33 (i := 1) (q := 3) hS ly0 rfl (xc_P hS (by decide)) ?_
    refine xo_0 rfl ?_
    refine xo_49 (st' := []) rfl rfl (xc_ly hS ly3) rfl (Nat.le_of_ble_eq_true rfl) ?_
    refine t_X3_waysAt hS ?_
    refine jw_mono (jw_bind h) (fun q2 h => ?_)
    show jx_Ex _ _ _ _ [.int q2.1] (jh S q2.2) _
    replace h := jw_some h
    exact xo_69 h
  replace h := jw_neg hc1 h
  refine xo_swc (tb := jm_b1135_73) rfl (fun hc3 => ?_) (fun hc3 => ?_)
  · replace h := jw_pos hc3 h
    refine xo_2 rfl ?_
    refine xc_33 (i := 1) (q := 3) hS ly0 rfl (xc_P hS (by decide)) ?_
    refine xo_0 rfl ?_
    refine xo_49 (st' := []) rfl rfl (xc_ly hS ly3) rfl (Nat.le_of_ble_eq_true rfl) ?_
    refine t_X3_isInn hS ?_
    refine jw_mono (jw_bind h) (fun q4 h => ?_)
    show jx_Ex _ _ _ _ [.int q4.1] (jh S q4.2) _
    refine xo_55 (t := jm_b1135_88) rfl (fun hc5 => ?_) (fun hc5 => ?_)
    · replace h := jw_pos hc5 h
      refine xo_8 ?_
      replace h := jw_some h
      exact xo_69 h
    · replace h := jw_neg hc5 h
      refine xo_8 ?_
      refine xo_54 (t := jm_b1135_89) rfl ?_
      replace h := jw_some h
      exact xo_69 h
  replace h := jw_neg hc3 h
  refine xo_swc (tb := jm_b1135_90) rfl (fun hc6 => ?_) (fun hc6 => ?_)
  · replace h := jw_pos hc6 h
    refine xo_2 rfl ?_
    refine xo_0 rfl ?_
    refine xo_49 (st' := []) rfl rfl (xc_ly hS ly0) rfl (Nat.le_of_ble_eq_true rfl) ?_
    refine t_X10_ridersAt hS ?_
    refine jw_mono (jw_bind h) (fun q7 h => ?_)
    show jx_Ex _ _ _ _ [.int q7.1] (jh S q7.2) _
    replace h := jw_some h
    exact xo_69 h
  replace h := jw_neg hc6 h
  refine xo_swn (tb := jm_b1135_96) rfl ?_
  refine xo_2 rfl ?_
  refine xc_33 (i := 1) (q := 3) hS ly0 rfl (xc_P hS (by decide)) ?_
  refine xo_0 rfl ?_
  refine xo_0 rfl ?_
  refine xo_8 ?_
  refine xo_15 ?_
  refine xo_49 (st' := []) rfl rfl (xc_ly hS ly3) rfl (Nat.le_of_ble_eq_true rfl) ?_
  refine t_X3_leadsTo hS ?_
  refine jw_mono (jw_bind h) (fun q8 h => ?_)
  show jx_Ex _ _ _ _ [.int q8.1] (jh S q8.2) _
  replace h := jw_some h
  exact xo_69 h
/-- OfDifferentMinds.rider, at ['x', 'int', 'int'] -/
def f_X10_riderGood (x1 : Int32) (x2 : Int32) (σ : jT) : Option (Int32 × jT) :=
  if x2 = 0 then
    (f_X3_mindOf x1 σ).bind fun q2 =>
    some (q2.1, q2.2)
  else
  if x2 = 1 then
    (f_X8_spentOf x1 σ).bind fun q4 =>
    some (q4.1, q4.2)
  else
  if x2 = 2 then
    (f_X8_placeOf x1 σ).bind fun q6 =>
    some (q6.1, q6.2)
  else
  if x2 = 3 then
    (f_X8_convincerOf x1 σ).bind fun q8 =>
    some (q8.1, q8.2)
  else
  if x2 = 4 then
    (f_X8_placeOf x1 σ).bind fun q10 =>
    (f_X10_viewAt x1 q10.1 q10.2).bind fun q11 =>
    some (q11.1, q11.2)
  else
  (f_X8_isUp x1 σ).bind fun q12 =>
  if q12.1 = 0 then
    some (0, q12.2)
  else
    some (1, q12.2)
theorem t_X10_riderGood {S : jS} (hS : jCok S) {d : Nat} {Q : Option Value → jx_H → Prop} {x1 : Int32} {x2 : Int32} {σ : jT} (h : jw (f_X10_riderGood x1 x2 σ) (fun q => Q (some (.int q.1)) (jh S q.2))) : jx_Ex (d + 4) jm_l1137 jm_b1137_30 [.ref 0, .int x1, .int x2] [] (jh S σ) Q := by
  unfold f_X10_riderGood at h
  refine xo_0 rfl ?_
  refine xo_67 ?_
  refine xo_swc (tb := jm_b1137_64) rfl (fun hc1 => ?_) (fun hc1 => ?_)
  · replace h := jw_pos hc1 h
    refine xo_2 rfl ?_
    refine xc_33 (i := 1) (q := 3) hS ly0 rfl (xc_P hS (by decide)) ?_
    refine xo_0 rfl ?_
    refine xo_49 (st' := []) rfl rfl (xc_ly hS ly3) rfl (Nat.le_of_ble_eq_true rfl) ?_
    refine t_X3_mindOf hS ?_
    refine jw_mono (jw_bind h) (fun q2 h => ?_)
    show jx_Ex _ _ _ _ [.int q2.1] (jh S q2.2) _
    replace h := jw_some h
    exact xo_69 h
  replace h := jw_neg hc1 h
  refine xo_swc (tb := jm_b1137_73) rfl (fun hc3 => ?_) (fun hc3 => ?_)
  · replace h := jw_pos hc3 h
    refine xo_2 rfl ?_
    refine xc_33 (i := 3) (q := 12) hS ly0 rfl (xc_P hS (by decide)) ?_
    refine xo_0 rfl ?_
    refine xo_49 (st' := []) rfl rfl (xc_ly hS ly12) rfl (Nat.le_of_ble_eq_true rfl) ?_
    refine t_X8_spentOf hS ?_
    refine jw_mono (jw_bind h) (fun q4 h => ?_)
    show jx_Ex _ _ _ _ [.int q4.1] (jh S q4.2) _
    replace h := jw_some h
    exact xo_69 h
  replace h := jw_neg hc3 h
  refine xo_swc (tb := jm_b1137_82) rfl (fun hc5 => ?_) (fun hc5 => ?_)
  · replace h := jw_pos hc5 h
    refine xo_2 rfl ?_
    refine xc_33 (i := 3) (q := 12) hS ly0 rfl (xc_P hS (by decide)) ?_
    refine xo_0 rfl ?_
    refine xo_49 (st' := []) rfl rfl (xc_ly hS ly12) rfl (Nat.le_of_ble_eq_true rfl) ?_
    refine t_X8_placeOf hS ?_
    refine jw_mono (jw_bind h) (fun q6 h => ?_)
    show jx_Ex _ _ _ _ [.int q6.1] (jh S q6.2) _
    replace h := jw_some h
    exact xo_69 h
  replace h := jw_neg hc5 h
  refine xo_swc (tb := jm_b1137_91) rfl (fun hc7 => ?_) (fun hc7 => ?_)
  · replace h := jw_pos hc7 h
    refine xo_2 rfl ?_
    refine xc_33 (i := 3) (q := 12) hS ly0 rfl (xc_P hS (by decide)) ?_
    refine xo_0 rfl ?_
    refine xo_49 (st' := []) rfl rfl (xc_ly hS ly12) rfl (Nat.le_of_ble_eq_true rfl) ?_
    refine t_X8_convincerOf hS ?_
    refine jw_mono (jw_bind h) (fun q8 h => ?_)
    show jx_Ex _ _ _ _ [.int q8.1] (jh S q8.2) _
    replace h := jw_some h
    exact xo_69 h
  replace h := jw_neg hc7 h
  refine xo_swc (tb := jm_b1137_100) rfl (fun hc9 => ?_) (fun hc9 => ?_)
  · replace h := jw_pos hc9 h
    refine xo_2 rfl ?_
    refine xo_0 rfl ?_
    refine xo_2 rfl ?_
    refine xc_33 (i := 3) (q := 12) hS ly0 rfl (xc_P hS (by decide)) ?_
    refine xo_0 rfl ?_
    refine xo_49 (st' := [.int x1, .ref 0]) rfl rfl (xc_ly hS ly12) rfl (Nat.le_of_ble_eq_true rfl) ?_
    refine t_X8_placeOf hS ?_
    refine jw_mono (jw_bind h) (fun q10 h => ?_)
    show jx_Ex _ _ _ _ [.int q10.1, .int x1, .ref 0] (jh S q10.2) _
    refine xo_49 (st' := []) rfl rfl (xc_ly hS ly0) rfl (Nat.le_of_ble_eq_true rfl) ?_
    refine t_X10_viewAt hS ?_
    refine jw_mono (jw_bind h) (fun q11 h => ?_)
    show jx_Ex _ _ _ _ [.int q11.1] (jh S q11.2) _
    replace h := jw_some h
    exact xo_69 h
  replace h := jw_neg hc9 h
  refine xo_swn (tb := jm_b1137_114) rfl ?_
  refine xo_2 rfl ?_
  refine xc_33 (i := 3) (q := 12) hS ly0 rfl (xc_P hS (by decide)) ?_
  refine xo_0 rfl ?_
  refine xo_49 (st' := []) rfl rfl (xc_ly hS ly12) rfl (Nat.le_of_ble_eq_true rfl) ?_
  refine t_X8_isUp hS ?_
  refine jw_mono (jw_bind h) (fun q12 h => ?_)
  show jx_Ex _ _ _ _ [.int q12.1] (jh S q12.2) _
  refine xo_55 (t := jm_b1137_129) rfl (fun hc13 => ?_) (fun hc13 => ?_)
  · replace h := jw_pos hc13 h
    refine xo_8 ?_
    replace h := jw_some h
    exact xo_69 h
  · replace h := jw_neg hc13 h
    refine xo_8 ?_
    refine xo_54 (t := jm_b1137_130) rfl ?_
    replace h := jw_some h
    exact xo_69 h
/-- OfDifferentMinds.row, at ['x', 'int'] -/
def f_X10_rowGood (x1 : Int32) (σ : jT) : Option (Int32 × jT) :=
  (f_X6_at x1 σ).bind fun q1 =>
  some (q1.1, q1.2)
theorem t_X10_rowGood {S : jS} (hS : jCok S) {d : Nat} {Q : Option Value → jx_H → Prop} {x1 : Int32} {σ : jT} (h : jw (f_X10_rowGood x1 σ) (fun q => Q (some (.int q.1)) (jh S q.2))) : jx_Ex (d + 1) jm_l1198 jm_b1198_26 [.ref 0, .int x1] [] (jh S σ) Q := by
  unfold f_X10_rowGood at h
  refine xo_2 rfl ?_
  refine xc_33 (i := 5) (q := 47) hS ly0 rfl (xc_P hS (by decide)) ?_
  refine xo_0 rfl ?_
  refine xo_49 (st' := []) rfl rfl (xc_ly hS ly47) rfl (Nat.le_of_ble_eq_true rfl) ?_
  refine t_X6_at hS ?_
  refine jw_mono (jw_bind h) (fun q1 h => ?_)
  show jx_Ex _ _ _ _ [.int q1.1] (jh S q1.2) _
  replace h := jw_some h
  exact xo_69 h
