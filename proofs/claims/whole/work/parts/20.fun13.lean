/-! ===== methods as functions ===== -/
/-- OfDifferentMindsModel.stops, at ['m', 'int', 'int', 'int'] U -/
def f_X11_stops_b87 (x4 : Int32) (s0 : Int32) (σ : jT) : Option (Int32 × jT) :=
  (f_X11_tell s0 σ).bind fun q1 =>
  (f_X11_tell (q1.2.1 4191) q1.2).bind fun q2 =>
  some (x4, q2.2)
def f_X11_stops (x1 : Int32) (x2 : Int32) (x3 : Int32) (σ : jT) : Option (Int32 × jT) :=
  (f_X11_canRide x1 x2 x3 (gs σ 4172 0)).bind fun q1 =>
  if ¬ q1.1 = 0 then
    (f_X11_mountThen x1 x2 x3 0 q1.2).bind fun q3 =>
    (f_X11_goRide_82 200 q3.2).bind fun q4 =>
    (f_X11_tell (q4.2.2 82 0) (gs q4.2 4171 0)).bind fun q6 =>
    (f_X11_goesOn_82 q6.2).bind fun q7 =>
    if q7.1 = 0 then
      if jx_in (q7.2.2 82 0) 10 then
      if ¬ (q7.2.2 67 (q7.2.2 82 0).toNatClampNeg) = 0 then
        f_X11_stops_b87 q4.1 1 q7.2
      else
        f_X11_stops_b87 q4.1 0 q7.2
      else none
    else
      some ((-2), q7.2)
  else
    some ((-1), q1.2)
theorem t_X11_stops_b87 {S : jS} (hS : jMok S) {d : Nat} {Q : Option Value → jx_H → Prop} {rd : Value} {x4 : Int32} {s0 : Int32} {w1 : Value} {w2 : Value} {w3 : Value} {σ : jT} (h : jw (f_X11_stops_b87 x4 s0 σ) (fun q => ∀ rd : Value, Q (some (.int q.1)) (jh (jSrd S rd) q.2))) : jx_Ex (d + 108) jm_l273 jm_b273_87 [.ref 65, w1, w2, w3, .int x4] [.int s0, .ref 65] (jh (jSrd S rd) σ) Q := by
  unfold f_X11_stops_b87 at h
  refine xo_49 (st' := []) rfl rfl (xm_ly (jSrd_ok hS rd) ly65) rfl (Nat.le_of_ble_eq_true rfl) ?_
  refine t_X11_tell hS ?_
  refine jw_mono (jw_bind h) (fun q1 h => ?_)
  show jx_Ex _ _ _ _ [] (jh (jSrd S rd) q1.2) _
  refine xo_2 rfl ?_
  refine xo_2 rfl ?_
  refine xm_32 (i := 4191) (v := (q1.2.1 4191)) (jSrd_ok hS rd) ly65 rfl ⟨Nat.le_of_ble_eq_true rfl, Nat.le_of_ble_eq_true rfl⟩ rfl ?_
  refine xo_49 (st' := []) rfl rfl (xm_ly (jSrd_ok hS rd) ly65) rfl (Nat.le_of_ble_eq_true rfl) ?_
  refine t_X11_tell hS ?_
  refine jw_mono (jw_bind h) (fun q2 h => ?_)
  show jx_Ex _ _ _ _ [] (jh (jSrd S rd) q2.2) _
  refine xo_1 rfl ?_
  replace h := jw_some h
  exact xo_69 (h rd)
theorem t_X11_stops {S : jS} (hS : jMok S) {d : Nat} {Q : Option Value → jx_H → Prop} {rd : Value} {x1 : Int32} {x2 : Int32} {x3 : Int32} {σ : jT} (h : jw (f_X11_stops x1 x2 x3 σ) (fun q => ∀ rd : Value, Q (some (.int q.1)) (jh (jSrd S rd) q.2))) : jx_Sp (d + 108) 273 [.ref 65, .int x1, .int x2, .int x3] (jh (jSrd S rd) σ) Q := by
  refine ⟨jm_i273, jm_at273, rfl, rfl, ?_⟩
  show jx_Ex _ jm_l273 jm_b273_0 [.ref 65, .int x1, .int x2, .int x3, .retAddr 0] [] _ _
  unfold f_X11_stops at h
  refine xo_2 rfl ?_
  refine xo_8 ?_
  refine xm_34 (i := 4172) (jSrd_ok hS rd) ly65 rfl ⟨Nat.le_of_ble_eq_true rfl, Nat.le_of_ble_eq_true rfl⟩ ?_
  refine xo_2 rfl ?_
  refine xo_0 rfl ?_
  refine xo_0 rfl ?_
  refine xo_0 rfl ?_
  refine xo_49 (st' := []) rfl rfl (xm_ly (jSrd_ok hS rd) ly65) rfl (Nat.le_of_ble_eq_true rfl) ?_
  refine t_X11_canRide hS ?_
  refine jw_mono (jw_bind h) (fun q1 h => ?_)
  show jx_Ex _ _ _ _ [.int q1.1] (jh (jSrd S rd) q1.2) _
  refine xo_56 (t := jm_b273_17) rfl (fun hc2 => ?_) (fun hc2 => ?_)
  · replace h := jw_pos hc2 h
    refine xo_2 rfl ?_
    refine xo_0 rfl ?_
    refine xo_0 rfl ?_
    refine xo_0 rfl ?_
    refine xo_8 ?_
    refine xo_49 (st' := []) rfl rfl (xm_ly (jSrd_ok hS rd) ly65) rfl (Nat.le_of_ble_eq_true rfl) ?_
    refine t_X11_mountThen hS ?_
    refine jw_mono (jw_bind h) (fun q3 h => ?_)
    show jx_Ex _ _ _ _ [] (jh (jSrd S rd) q3.2) _
    refine xo_2 rfl ?_
    refine xo_2 rfl ?_
    refine xm_33 (i := 4194) (q := 82) (jSrd_ok hS rd) ly65 rfl (xm_P (jSrd_ok hS rd) (by decide)) ?_
    refine xo_10 ?_
    refine xo_49 (st' := []) rfl rfl (xm_ly (jSrd_ok hS rd) ly65) rfl (Nat.le_of_ble_eq_true rfl) ?_
    refine t_X11_goRide_82 hS ?_
    refine jw_mono (jw_bind h) (fun q4 h rd5 => ?_)
    show jx_Ex _ _ _ _ [.int q4.1] (jh (jSrd S rd5) q4.2) _
    refine xo_5 (ls' := [.ref 65, .int x1, .int x2, .int x3, .int q4.1]) rfl ?_
    refine xo_2 rfl ?_
    refine xo_8 ?_
    refine xm_34 (i := 4171) (jSrd_ok hS rd5) ly65 rfl ⟨Nat.le_of_ble_eq_true rfl, Nat.le_of_ble_eq_true rfl⟩ ?_
    refine xo_2 rfl ?_
    refine xo_2 rfl ?_
    refine xm_33 (i := 4194) (q := 82) (jSrd_ok hS rd5) ly65 rfl (xm_P (jSrd_ok hS rd5) (by decide)) ?_
    refine xo_8 ?_
    refine xm_38 (j := 0) (v := (q4.2.2 82 0)) (jSrd_ok hS rd5) ly82 ⟨Nat.le_of_ble_eq_true rfl, Nat.le_of_ble_eq_true rfl⟩ (by decide) (by decide) rfl ?_
    refine xo_49 (st' := []) rfl rfl (xm_ly (jSrd_ok hS rd5) ly65) rfl (Nat.le_of_ble_eq_true rfl) ?_
    refine t_X11_tell hS ?_
    refine jw_mono (jw_bind h) (fun q6 h => ?_)
    show jx_Ex _ _ _ _ [] (jh (jSrd S rd5) q6.2) _
    refine xo_2 rfl ?_
    refine xo_2 rfl ?_
    refine xm_33 (i := 4194) (q := 82) (jSrd_ok hS rd5) ly65 rfl (xm_P (jSrd_ok hS rd5) (by decide)) ?_
    refine xo_49 (st' := []) rfl rfl (xm_ly (jSrd_ok hS rd5) ly65) rfl (Nat.le_of_ble_eq_true rfl) ?_
    refine t_X11_goesOn_82 hS ?_
    refine jw_mono (jw_bind h) (fun q7 h => ?_)
    show jx_Ex _ _ _ _ [.int q7.1] (jh (jSrd S rd5) q7.2) _
    refine xo_55 (t := jm_b273_67) rfl (fun hc8 => ?_) (fun hc8 => ?_)
    · replace h := jw_pos hc8 h
      refine xo_2 rfl ?_
      refine xo_2 rfl ?_
      refine xm_33 (i := 4162) (q := 67) (jSrd_ok hS rd5) ly65 rfl (xm_P (jSrd_ok hS rd5) (by decide)) ?_
      refine xo_2 rfl ?_
      refine xm_33 (i := 4194) (q := 82) (jSrd_ok hS rd5) ly65 rfl (xm_P (jSrd_ok hS rd5) (by decide)) ?_
      refine xo_8 ?_
      refine xm_38 (j := 0) (v := (q7.2.2 82 0)) (jSrd_ok hS rd5) ly82 ⟨Nat.le_of_ble_eq_true rfl, Nat.le_of_ble_eq_true rfl⟩ (by decide) (by decide) rfl ?_
      obtain ⟨hi9, h⟩ := jw_chk h
      refine xm_38 (j := (q7.2.2 82 0).toNatClampNeg) (v := (q7.2.2 67 (q7.2.2 82 0).toNatClampNeg)) (jSrd_ok hS rd5) ly67 ⟨Nat.le_of_ble_eq_true rfl, Nat.le_of_ble_eq_true rfl⟩ hi9 rfl rfl ?_
      refine xo_56 (t := jm_b273_86) rfl (fun hc10 => ?_) (fun hc10 => ?_)
      · replace h := jw_pos hc10 h
        refine xo_8 ?_
        exact t_X11_stops_b87 hS h
      · replace h := jw_neg hc10 h
        refine xo_8 ?_
        refine xo_54 (t := jm_b273_87) rfl ?_
        exact t_X11_stops_b87 hS h
    · replace h := jw_neg hc8 h
      refine xo_9 ?_
      replace h := jw_some h
      exact xo_69 (h rd5)
  · replace h := jw_neg hc2 h
    refine xo_8 ?_
    replace h := jw_some h
    exact xo_69 (h rd)
/-- OfDifferentMindsModel.trail, at ['m', 'int', 'int', 'int'] U -/
def f_X11_trail_b164 (k111 : Int32 → Int32 → Int32 → Int32 → jT → Option (Int32 × jT)) (x4 : Int32) (x5 : Int32) (x6 : Int32) (x7 : Int32) (σ : jT) : Option (Int32 × jT) :=
  k111 x4 x5 x6 (x7 + 1) σ
def f_X11_trail_b140 (k111 : Int32 → Int32 → Int32 → Int32 → jT → Option (Int32 × jT)) (x4 : Int32) (x6 : Int32) (x7 : Int32) (s0 : Int32) (s1 : Int32) (σ : jT) : Option (Int32 × jT) :=
  if jx_in x7 10 then
  if jx_in x6 10 then
  if (σ.2 83 x7.toNatClampNeg) ≤ (σ.2 83 x6.toNatClampNeg) then
    f_X11_trail_b164 k111 x4 (s1 ||| s0) x6 x7 σ
  else
    f_X11_trail_b164 k111 x4 (s1 ||| s0) x7 x7 σ
  else none
  else none
def f_X11_trail_b111 : Nat → Int32 → Int32 → Int32 → Int32 → jT → Option (Int32 × jT)
  | 0, _, _, _, _, _ => none
  | n + 1, x4, x5, x6, x7, σ =>
    if (σ.1 4161) ≤ x7 then
      (f_X11_tell x4 (gs σ 4171 0)).bind fun q2 =>
      if jx_in x6 10 then
      (f_X11_tell (q2.2.2 83 x6.toNatClampNeg) q2.2).bind fun q4 =>
      (f_X11_tell x6 q4.2).bind fun q5 =>
      some (x5, q5.2)
      else none
    else
      if jx_in x7 10 then
      if (σ.2 83 x7.toNatClampNeg) ≤ 0 then
        f_X11_trail_b140 (f_X11_trail_b111 n) x4 x6 x7 0 x5 σ
      else
        f_X11_trail_b140 (f_X11_trail_b111 n) x4 x6 x7 (1 <<< (x7 &&& 31)) x5 σ
      else none
def f_X11_trail_b102 (x4 : Int32) (σ : jT) : Option (Int32 × jT) :=
  f_X11_trail_b111 1000 x4 0 0 0 σ
def f_X11_trail_b62 : Nat → Int32 → jT → Option (Int32 × jT)
  | 0, _, _ => none
  | n + 1, x4, σ =>
    if 200 ≤ x4 then
      f_X11_trail_b102 x4 σ
    else
      (f_X11_step_82 σ).bind fun q2 =>
      if q2.1 = 0 then
        f_X11_trail_b102 x4 q2.2
      else
        if jx_in (q2.2.2 82 0) 10 then
        f_X11_trail_b62 n (x4 + 1) (gA q2.2 83 (q2.2.2 82 0).toNatClampNeg ((q2.2.2 83 (q2.2.2 82 0).toNatClampNeg) + 1))
        else none
def f_X11_trail_b52 (k28 : Int32 → Int32 → jT → Option (Int32 × jT)) (x3 : Int32) (x4 : Int32) (s0 : Int32) (s1 : Int32) (σ : jT) : Option (Int32 × jT) :=
  if jx_in s1 10 then
  k28 x3 (x4 + 1) (gA σ 83 s1.toNatClampNeg s0)
  else none
def f_X11_trail_b28 : Nat → Int32 → Int32 → jT → Option (Int32 × jT)
  | 0, _, _, _ => none
  | n + 1, x3, x4, σ =>
    if 10 ≤ x4 then
      f_X11_trail_b62 1000 0 σ
    else
      if ¬ x4 = x3 then
        f_X11_trail_b52 (f_X11_trail_b28 n) x3 x4 0 x4 σ
      else
        f_X11_trail_b52 (f_X11_trail_b28 n) x3 x4 1 x4 σ
def f_X11_trail (x1 : Int32) (x2 : Int32) (x3 : Int32) (σ : jT) : Option (Int32 × jT) :=
  (f_X11_canRide x1 x2 x3 (gs σ 4172 0)).bind fun q1 =>
  if ¬ q1.1 = 0 then
    (f_X11_mountThen x1 x2 x3 0 q1.2).bind fun q3 =>
    f_X11_trail_b28 1000 x3 0 q3.2
  else
    some ((-1), q1.2)
theorem t_X11_trail_b164 {S : jS} (hS : jMok S) {d : Nat} {Q : Option Value → jx_H → Prop} {k111 : Int32 → Int32 → Int32 → Int32 → jT → Option (Int32 × jT)} (hk111 : ∀ {rd : Value} {x4 : Int32} {x5 : Int32} {x6 : Int32} {x7 : Int32} {w1 : Value} {w2 : Value} {w3 : Value} {σ : jT}, jw (k111 x4 x5 x6 x7 σ) (fun q => ∀ rd : Value, Q (some (.int q.1)) (jh (jSrd S rd) q.2)) → jx_Ex (d + 107) jm_l274 jm_b274_111 [.ref 65, w1, w2, w3, .int x4, .int x5, .int x6, .int x7] [] (jh (jSrd S rd) σ) Q) {rd : Value} {x4 : Int32} {x5 : Int32} {x6 : Int32} {x7 : Int32} {w1 : Value} {w2 : Value} {w3 : Value} {σ : jT} (h : jw (f_X11_trail_b164 k111 x4 x5 x6 x7 σ) (fun q => ∀ rd : Value, Q (some (.int q.1)) (jh (jSrd S rd) q.2))) : jx_Ex (d + 107) jm_l274 jm_b274_164 [.ref 65, w1, w2, w3, .int x4, .int x5, .int x6, .int x7] [] (jh (jSrd S rd) σ) Q := by
  unfold f_X11_trail_b164 at h
  refine xo_13 (ls' := [.ref 65, w1, w2, w3, .int x4, .int x5, .int x6, .int (x7 + 1)]) rfl rfl ?_
  refine xo_54 (t := jm_b274_111) rfl ?_
  exact hk111 h
theorem t_X11_trail_b140 {S : jS} (hS : jMok S) {d : Nat} {Q : Option Value → jx_H → Prop} {k111 : Int32 → Int32 → Int32 → Int32 → jT → Option (Int32 × jT)} (hk111 : ∀ {rd : Value} {x4 : Int32} {x5 : Int32} {x6 : Int32} {x7 : Int32} {w1 : Value} {w2 : Value} {w3 : Value} {σ : jT}, jw (k111 x4 x5 x6 x7 σ) (fun q => ∀ rd : Value, Q (some (.int q.1)) (jh (jSrd S rd) q.2)) → jx_Ex (d + 107) jm_l274 jm_b274_111 [.ref 65, w1, w2, w3, .int x4, .int x5, .int x6, .int x7] [] (jh (jSrd S rd) σ) Q) {rd : Value} {x4 : Int32} {x6 : Int32} {x7 : Int32} {s0 : Int32} {s1 : Int32} {w1 : Value} {w2 : Value} {w3 : Value} {w5 : Value} {σ : jT} (h : jw (f_X11_trail_b140 k111 x4 x6 x7 s0 s1 σ) (fun q => ∀ rd : Value, Q (some (.int q.1)) (jh (jSrd S rd) q.2))) : jx_Ex (d + 107) jm_l274 jm_b274_140 [.ref 65, w1, w2, w3, .int x4, w5, .int x6, .int x7] [.int s0, .int s1] (jh (jSrd S rd) σ) Q := by
  unfold f_X11_trail_b140 at h
  refine xo_21 ?_
  refine xo_5 (ls' := [.ref 65, w1, w2, w3, .int x4, .int (s1 ||| s0), .int x6, .int x7]) rfl ?_
  refine xo_2 rfl ?_
  refine xm_33 (i := 4195) (q := 83) (jSrd_ok hS rd) ly65 rfl (xm_P (jSrd_ok hS rd) (by decide)) ?_
  refine xo_1 rfl ?_
  obtain ⟨hi1, h⟩ := jw_chk h
  refine xm_38 (j := x7.toNatClampNeg) (v := (σ.2 83 x7.toNatClampNeg)) (jSrd_ok hS rd) ly83 ⟨Nat.le_of_ble_eq_true rfl, Nat.le_of_ble_eq_true rfl⟩ hi1 rfl rfl ?_
  refine xo_2 rfl ?_
  refine xm_33 (i := 4195) (q := 83) (jSrd_ok hS rd) ly65 rfl (xm_P (jSrd_ok hS rd) (by decide)) ?_
  refine xo_1 rfl ?_
  obtain ⟨hi2, h⟩ := jw_chk h
  refine xm_38 (j := x6.toNatClampNeg) (v := (σ.2 83 x6.toNatClampNeg)) (jSrd_ok hS rd) ly83 ⟨Nat.le_of_ble_eq_true rfl, Nat.le_of_ble_eq_true rfl⟩ hi2 rfl rfl ?_
  refine xo_66 (t := jm_b274_164) rfl (fun hc3 => ?_) (fun hc3 => ?_)
  · replace h := jw_pos hc3 h
    exact t_X11_trail_b164 hS hk111 h
  · replace h := jw_neg hc3 h
    refine xo_1 rfl ?_
    refine xo_5 (ls' := [.ref 65, w1, w2, w3, .int x4, .int (s1 ||| s0), .int x7, .int x7]) rfl ?_
    exact t_X11_trail_b164 hS hk111 h
theorem t_X11_trail_b111 {S : jS} (hS : jMok S) {d : Nat} {Q : Option Value → jx_H → Prop} : ∀ (n : Nat) {rd : Value} {x4 : Int32} {x5 : Int32} {x6 : Int32} {x7 : Int32} {w1 : Value} {w2 : Value} {w3 : Value} {σ : jT}, jw (f_X11_trail_b111 n x4 x5 x6 x7 σ) (fun q => ∀ rd : Value, Q (some (.int q.1)) (jh (jSrd S rd) q.2)) → jx_Ex (d + 107) jm_l274 jm_b274_111 [.ref 65, w1, w2, w3, .int x4, .int x5, .int x6, .int x7] [] (jh (jSrd S rd) σ) Q := by
  intro n
  induction n with
  | zero => intro rd x4 x5 x6 x7 w1 w2 w3 σ h; exact jw_none h
  | succ n ih =>
    intro rd x4 x5 x6 x7 w1 w2 w3 σ h
    rw [f_X11_trail_b111] at h
    refine xo_1 rfl ?_
    refine xo_2 rfl ?_
    refine xm_32 (i := 4161) (v := (σ.1 4161)) (jSrd_ok hS rd) ly65 rfl ⟨Nat.le_of_ble_eq_true rfl, Nat.le_of_ble_eq_true rfl⟩ rfl ?_
    refine xo_64 (t := jm_b274_170) rfl (fun hc1 => ?_) (fun hc1 => ?_)
    · replace h := jw_pos hc1 h
      refine xo_2 rfl ?_
      refine xo_8 ?_
      refine xm_34 (i := 4171) (jSrd_ok hS rd) ly65 rfl ⟨Nat.le_of_ble_eq_true rfl, Nat.le_of_ble_eq_true rfl⟩ ?_
      refine xo_2 rfl ?_
      refine xo_1 rfl ?_
      refine xo_49 (st' := []) rfl rfl (xm_ly (jSrd_ok hS rd) ly65) rfl (Nat.le_of_ble_eq_true rfl) ?_
      refine t_X11_tell hS ?_
      refine jw_mono (jw_bind h) (fun q2 h => ?_)
      show jx_Ex _ _ _ _ [] (jh (jSrd S rd) q2.2) _
      refine xo_2 rfl ?_
      refine xo_2 rfl ?_
      refine xm_33 (i := 4195) (q := 83) (jSrd_ok hS rd) ly65 rfl (xm_P (jSrd_ok hS rd) (by decide)) ?_
      refine xo_1 rfl ?_
      obtain ⟨hi3, h⟩ := jw_chk h
      refine xm_38 (j := x6.toNatClampNeg) (v := (q2.2.2 83 x6.toNatClampNeg)) (jSrd_ok hS rd) ly83 ⟨Nat.le_of_ble_eq_true rfl, Nat.le_of_ble_eq_true rfl⟩ hi3 rfl rfl ?_
      refine xo_49 (st' := []) rfl rfl (xm_ly (jSrd_ok hS rd) ly65) rfl (Nat.le_of_ble_eq_true rfl) ?_
      refine t_X11_tell hS ?_
      refine jw_mono (jw_bind h) (fun q4 h => ?_)
      show jx_Ex _ _ _ _ [] (jh (jSrd S rd) q4.2) _
      refine xo_2 rfl ?_
      refine xo_1 rfl ?_
      refine xo_49 (st' := []) rfl rfl (xm_ly (jSrd_ok hS rd) ly65) rfl (Nat.le_of_ble_eq_true rfl) ?_
      refine t_X11_tell hS ?_
      refine jw_mono (jw_bind h) (fun q5 h => ?_)
      show jx_Ex _ _ _ _ [] (jh (jSrd S rd) q5.2) _
      refine xo_1 rfl ?_
      replace h := jw_some h
      exact xo_69 (h rd)
    · replace h := jw_neg hc1 h
      refine xo_1 rfl ?_
      refine xo_2 rfl ?_
      refine xm_33 (i := 4195) (q := 83) (jSrd_ok hS rd) ly65 rfl (xm_P (jSrd_ok hS rd) (by decide)) ?_
      refine xo_1 rfl ?_
      obtain ⟨hi6, h⟩ := jw_chk h
      refine xm_38 (j := x7.toNatClampNeg) (v := (σ.2 83 x7.toNatClampNeg)) (jSrd_ok hS rd) ly83 ⟨Nat.le_of_ble_eq_true rfl, Nat.le_of_ble_eq_true rfl⟩ hi6 rfl rfl ?_
      refine xo_60 (t := jm_b274_139) rfl (fun hc7 => ?_) (fun hc7 => ?_)
      · replace h := jw_pos hc7 h
        refine xo_8 ?_
        exact t_X11_trail_b140 hS ih h
      · replace h := jw_neg hc7 h
        refine xo_8 ?_
        refine xo_1 rfl ?_
        refine xo_23 ?_
        refine xo_54 (t := jm_b274_140) rfl ?_
        exact t_X11_trail_b140 hS ih h
theorem t_X11_trail_b102 {S : jS} (hS : jMok S) {d : Nat} {Q : Option Value → jx_H → Prop} {rd : Value} {x4 : Int32} {w1 : Value} {w2 : Value} {w3 : Value} {w5 : Value} {w6 : Value} {w7 : Value} {σ : jT} (h : jw (f_X11_trail_b102 x4 σ) (fun q => ∀ rd : Value, Q (some (.int q.1)) (jh (jSrd S rd) q.2))) : jx_Ex (d + 107) jm_l274 jm_b274_102 [.ref 65, w1, w2, w3, .int x4, w5, w6, w7] [] (jh (jSrd S rd) σ) Q := by
  unfold f_X11_trail_b102 at h
  refine xo_8 ?_
  refine xo_5 (ls' := [.ref 65, w1, w2, w3, .int x4, .int 0, w6, w7]) rfl ?_
  refine xo_8 ?_
  refine xo_5 (ls' := [.ref 65, w1, w2, w3, .int x4, .int 0, .int 0, w7]) rfl ?_
  refine xo_8 ?_
  refine xo_5 (ls' := [.ref 65, w1, w2, w3, .int x4, .int 0, .int 0, .int 0]) rfl ?_
  exact t_X11_trail_b111 hS 1000 h
theorem t_X11_trail_b62 {S : jS} (hS : jMok S) {d : Nat} {Q : Option Value → jx_H → Prop} : ∀ (n : Nat) {rd : Value} {x4 : Int32} {w1 : Value} {w2 : Value} {w3 : Value} {w5 : Value} {w6 : Value} {w7 : Value} {σ : jT}, jw (f_X11_trail_b62 n x4 σ) (fun q => ∀ rd : Value, Q (some (.int q.1)) (jh (jSrd S rd) q.2)) → jx_Ex (d + 107) jm_l274 jm_b274_62 [.ref 65, w1, w2, w3, .int x4, w5, w6, w7] [] (jh (jSrd S rd) σ) Q := by
  intro n
  induction n with
  | zero => intro rd x4 w1 w2 w3 w5 w6 w7 σ h; exact jw_none h
  | succ n ih =>
    intro rd x4 w1 w2 w3 w5 w6 w7 σ h
    rw [f_X11_trail_b62] at h
    refine xo_1 rfl ?_
    refine xo_10 ?_
    refine xo_64 (t := jm_b274_102) rfl (fun hc1 => ?_) (fun hc1 => ?_)
    · replace h := jw_pos hc1 h
      exact t_X11_trail_b102 hS h
    · replace h := jw_neg hc1 h
      refine xo_2 rfl ?_
      refine xo_2 rfl ?_
      refine xm_33 (i := 4194) (q := 82) (jSrd_ok hS rd) ly65 rfl (xm_P (jSrd_ok hS rd) (by decide)) ?_
      refine xo_49 (st' := []) rfl rfl (xm_ly (jSrd_ok hS rd) ly65) rfl (Nat.le_of_ble_eq_true rfl) ?_
      refine t_X11_step_82 hS ?_
      refine jw_mono (jw_bind h) (fun q2 h rd3 => ?_)
      show jx_Ex _ _ _ _ [.int q2.1] (jh (jSrd S rd3) q2.2) _
      refine xo_55 (t := jm_b274_102) rfl (fun hc4 => ?_) (fun hc4 => ?_)
      · replace h := jw_pos hc4 h
        exact t_X11_trail_b102 hS h
      · replace h := jw_neg hc4 h
        refine xo_2 rfl ?_
        refine xm_33 (i := 4195) (q := 83) (jSrd_ok hS rd3) ly65 rfl (xm_P (jSrd_ok hS rd3) (by decide)) ?_
        refine xo_2 rfl ?_
        refine xm_33 (i := 4194) (q := 82) (jSrd_ok hS rd3) ly65 rfl (xm_P (jSrd_ok hS rd3) (by decide)) ?_
        refine xo_8 ?_
        refine xm_38 (j := 0) (v := (q2.2.2 82 0)) (jSrd_ok hS rd3) ly82 ⟨Nat.le_of_ble_eq_true rfl, Nat.le_of_ble_eq_true rfl⟩ (by decide) (by decide) rfl ?_
        refine xo_29 ?_
        obtain ⟨hi5, h⟩ := jw_chk h
        refine xm_38 (j := (q2.2.2 82 0).toNatClampNeg) (v := (q2.2.2 83 (q2.2.2 82 0).toNatClampNeg)) (jSrd_ok hS rd3) ly83 ⟨Nat.le_of_ble_eq_true rfl, Nat.le_of_ble_eq_true rfl⟩ hi5 rfl rfl ?_
        refine xo_8 ?_
        refine xo_14 ?_
        refine xm_41 (j := (q2.2.2 82 0).toNatClampNeg) (jSrd_ok hS rd3) ly83 ⟨Nat.le_of_ble_eq_true rfl, Nat.le_of_ble_eq_true rfl⟩ hi5 rfl ?_
        refine xo_13 (ls' := [.ref 65, w1, w2, w3, .int (x4 + 1), w5, w6, w7]) rfl rfl ?_
        refine xo_54 (t := jm_b274_62) rfl ?_
        exact ih h
theorem t_X11_trail_b52 {S : jS} (hS : jMok S) {d : Nat} {Q : Option Value → jx_H → Prop} {k28 : Int32 → Int32 → jT → Option (Int32 × jT)} (hk28 : ∀ {rd : Value} {x3 : Int32} {x4 : Int32} {w1 : Value} {w2 : Value} {w5 : Value} {w6 : Value} {w7 : Value} {σ : jT}, jw (k28 x3 x4 σ) (fun q => ∀ rd : Value, Q (some (.int q.1)) (jh (jSrd S rd) q.2)) → jx_Ex (d + 107) jm_l274 jm_b274_28 [.ref 65, w1, w2, .int x3, .int x4, w5, w6, w7] [] (jh (jSrd S rd) σ) Q) {rd : Value} {x3 : Int32} {x4 : Int32} {s0 : Int32} {s1 : Int32} {w1 : Value} {w2 : Value} {w5 : Value} {w6 : Value} {w7 : Value} {σ : jT} (h : jw (f_X11_trail_b52 k28 x3 x4 s0 s1 σ) (fun q => ∀ rd : Value, Q (some (.int q.1)) (jh (jSrd S rd) q.2))) : jx_Ex (d + 107) jm_l274 jm_b274_52 [.ref 65, w1, w2, .int x3, .int x4, w5, w6, w7] [.int s0, .int s1, .ref 83] (jh (jSrd S rd) σ) Q := by
  unfold f_X11_trail_b52 at h
  obtain ⟨hi1, h⟩ := jw_chk h
  refine xm_41 (j := s1.toNatClampNeg) (jSrd_ok hS rd) ly83 ⟨Nat.le_of_ble_eq_true rfl, Nat.le_of_ble_eq_true rfl⟩ hi1 rfl ?_
  refine xo_13 (ls' := [.ref 65, w1, w2, .int x3, .int (x4 + 1), w5, w6, w7]) rfl rfl ?_
  refine xo_54 (t := jm_b274_28) rfl ?_
  exact hk28 h
theorem t_X11_trail_b28 {S : jS} (hS : jMok S) {d : Nat} {Q : Option Value → jx_H → Prop} : ∀ (n : Nat) {rd : Value} {x3 : Int32} {x4 : Int32} {w1 : Value} {w2 : Value} {w5 : Value} {w6 : Value} {w7 : Value} {σ : jT}, jw (f_X11_trail_b28 n x3 x4 σ) (fun q => ∀ rd : Value, Q (some (.int q.1)) (jh (jSrd S rd) q.2)) → jx_Ex (d + 107) jm_l274 jm_b274_28 [.ref 65, w1, w2, .int x3, .int x4, w5, w6, w7] [] (jh (jSrd S rd) σ) Q := by
  intro n
  induction n with
  | zero => intro rd x3 x4 w1 w2 w5 w6 w7 σ h; exact jw_none h
  | succ n ih =>
    intro rd x3 x4 w1 w2 w5 w6 w7 σ h
    rw [f_X11_trail_b28] at h
    refine xo_1 rfl ?_
    refine xo_9 ?_
    refine xo_64 (t := jm_b274_59) rfl (fun hc1 => ?_) (fun hc1 => ?_)
    · replace h := jw_pos hc1 h
      refine xo_8 ?_
      refine xo_5 (ls' := [.ref 65, w1, w2, .int x3, .int 0, w5, w6, w7]) rfl ?_
      exact t_X11_trail_b62 hS 1000 h
    · replace h := jw_neg hc1 h
      refine xo_2 rfl ?_
      refine xm_33 (i := 4195) (q := 83) (jSrd_ok hS rd) ly65 rfl (xm_P (jSrd_ok hS rd) (by decide)) ?_
      refine xo_1 rfl ?_
      refine xo_1 rfl ?_
      refine xo_0 rfl ?_
      refine xo_62 (t := jm_b274_51) rfl (fun hc2 => ?_) (fun hc2 => ?_)
      · replace h := jw_pos hc2 h
        refine xo_8 ?_
        exact t_X11_trail_b52 hS ih h
      · replace h := jw_neg hc2 h
        refine xo_8 ?_
        refine xo_54 (t := jm_b274_52) rfl ?_
        exact t_X11_trail_b52 hS ih h
theorem t_X11_trail {S : jS} (hS : jMok S) {d : Nat} {Q : Option Value → jx_H → Prop} {rd : Value} {x1 : Int32} {x2 : Int32} {x3 : Int32} {σ : jT} (h : jw (f_X11_trail x1 x2 x3 σ) (fun q => ∀ rd : Value, Q (some (.int q.1)) (jh (jSrd S rd) q.2))) : jx_Sp (d + 107) 274 [.ref 65, .int x1, .int x2, .int x3] (jh (jSrd S rd) σ) Q := by
  refine ⟨jm_i274, jm_at274, rfl, rfl, ?_⟩
  show jx_Ex _ jm_l274 jm_b274_0 [.ref 65, .int x1, .int x2, .int x3, .retAddr 0, .retAddr 0, .retAddr 0, .retAddr 0] [] _ _
  unfold f_X11_trail at h
  refine xo_2 rfl ?_
  refine xo_8 ?_
  refine xm_34 (i := 4172) (jSrd_ok hS rd) ly65 rfl ⟨Nat.le_of_ble_eq_true rfl, Nat.le_of_ble_eq_true rfl⟩ ?_
  refine xo_2 rfl ?_
  refine xo_0 rfl ?_
  refine xo_0 rfl ?_
  refine xo_0 rfl ?_
  refine xo_49 (st' := []) rfl rfl (xm_ly (jSrd_ok hS rd) ly65) rfl (Nat.le_of_ble_eq_true rfl) ?_
  refine t_X11_canRide hS ?_
  refine jw_mono (jw_bind h) (fun q1 h => ?_)
  show jx_Ex _ _ _ _ [.int q1.1] (jh (jSrd S rd) q1.2) _
  refine xo_56 (t := jm_b274_17) rfl (fun hc2 => ?_) (fun hc2 => ?_)
  · replace h := jw_pos hc2 h
    refine xo_2 rfl ?_
    refine xo_0 rfl ?_
    refine xo_0 rfl ?_
    refine xo_0 rfl ?_
    refine xo_8 ?_
    refine xo_49 (st' := []) rfl rfl (xm_ly (jSrd_ok hS rd) ly65) rfl (Nat.le_of_ble_eq_true rfl) ?_
    refine t_X11_mountThen hS ?_
    refine jw_mono (jw_bind h) (fun q3 h => ?_)
    show jx_Ex _ _ _ _ [] (jh (jSrd S rd) q3.2) _
    refine xo_8 ?_
    refine xo_5 (ls' := [.ref 65, .int x1, .int x2, .int x3, .int 0, .retAddr 0, .retAddr 0, .retAddr 0]) rfl ?_
    exact t_X11_trail_b28 hS 1000 h
  · replace h := jw_neg hc2 h
    refine xo_8 ?_
    replace h := jw_some h
    exact xo_69 (h rd)
/-- OfDifferentMindsModel.reaches, at ['m', 'int', 'int', 'int', 'int'] U -/
def f_X11_reaches_b37 : Nat → Int32 → Int32 → jT → Option (Int32 × jT)
  | 0, _, _, _ => none
  | n + 1, x4, x5, σ =>
    if (σ.2 82 0) = x4 then
      some (x5, σ)
    else
      if x5 = 200 then
        some ((-2), σ)
      else
        (f_X11_step_82 σ).bind fun q3 =>
        if ¬ q3.1 = 0 then
          f_X11_reaches_b37 n x4 (x5 + 1) q3.2
        else
          some ((-2), q3.2)
def f_X11_reaches (x1 : Int32) (x2 : Int32) (x3 : Int32) (x4 : Int32) (σ : jT) : Option (Int32 × jT) :=
  (f_X11_canRide x1 x2 x3 (gs σ 4172 0)).bind fun q1 =>
  if q1.1 = 0 then
    some ((-1), q1.2)
  else
    (f_X11_isPlace x4 q1.2).bind fun q3 =>
    if ¬ q3.1 = 0 then
      (f_X11_mountThen x1 x2 x3 0 q3.2).bind fun q5 =>
      f_X11_reaches_b37 1000 x4 0 q5.2
    else
      some ((-1), q3.2)
theorem t_X11_reaches_b37 {S : jS} (hS : jMok S) {d : Nat} {Q : Option Value → jx_H → Prop} : ∀ (n : Nat) {rd : Value} {x4 : Int32} {x5 : Int32} {w1 : Value} {w2 : Value} {w3 : Value} {σ : jT}, jw (f_X11_reaches_b37 n x4 x5 σ) (fun q => ∀ rd : Value, Q (some (.int q.1)) (jh (jSrd S rd) q.2)) → jx_Ex (d + 107) jm_l275 jm_b275_37 [.ref 65, w1, w2, w3, .int x4, .int x5] [] (jh (jSrd S rd) σ) Q := by
  intro n
  induction n with
  | zero => intro rd x4 x5 w1 w2 w3 σ h; exact jw_none h
  | succ n ih =>
    intro rd x4 x5 w1 w2 w3 σ h
    rw [f_X11_reaches_b37] at h
    refine xo_2 rfl ?_
    refine xm_33 (i := 4194) (q := 82) (jSrd_ok hS rd) ly65 rfl (xm_P (jSrd_ok hS rd) (by decide)) ?_
    refine xo_8 ?_
    refine xm_38 (j := 0) (v := (σ.2 82 0)) (jSrd_ok hS rd) ly82 ⟨Nat.le_of_ble_eq_true rfl, Nat.le_of_ble_eq_true rfl⟩ (by decide) (by decide) rfl ?_
    refine xo_1 rfl ?_
    refine xo_61 (t := jm_b275_76) rfl (fun hc1 => ?_) (fun hc1 => ?_)
    · replace h := jw_pos hc1 h
      refine xo_1 rfl ?_
      replace h := jw_some h
      exact xo_69 (h rd)
    · replace h := jw_neg hc1 h
      refine xo_1 rfl ?_
      refine xo_10 ?_
      refine xo_61 (t := jm_b275_67) rfl (fun hc2 => ?_) (fun hc2 => ?_)
      · replace h := jw_pos hc2 h
        refine xo_9 ?_
        replace h := jw_some h
        exact xo_69 (h rd)
      · replace h := jw_neg hc2 h
        refine xo_2 rfl ?_
        refine xo_2 rfl ?_
        refine xm_33 (i := 4194) (q := 82) (jSrd_ok hS rd) ly65 rfl (xm_P (jSrd_ok hS rd) (by decide)) ?_
        refine xo_49 (st' := []) rfl rfl (xm_ly (jSrd_ok hS rd) ly65) rfl (Nat.le_of_ble_eq_true rfl) ?_
        refine t_X11_step_82 hS ?_
        refine jw_mono (jw_bind h) (fun q3 h rd4 => ?_)
        show jx_Ex _ _ _ _ [.int q3.1] (jh (jSrd S rd4) q3.2) _
        refine xo_56 (t := jm_b275_70) rfl (fun hc5 => ?_) (fun hc5 => ?_)
        · replace h := jw_pos hc5 h
          refine xo_13 (ls' := [.ref 65, w1, w2, w3, .int x4, .int (x5 + 1)]) rfl rfl ?_
          refine xo_54 (t := jm_b275_37) rfl ?_
          exact ih h
        · replace h := jw_neg hc5 h
          refine xo_9 ?_
          replace h := jw_some h
          exact xo_69 (h rd4)
theorem t_X11_reaches {S : jS} (hS : jMok S) {d : Nat} {Q : Option Value → jx_H → Prop} {rd : Value} {x1 : Int32} {x2 : Int32} {x3 : Int32} {x4 : Int32} {σ : jT} (h : jw (f_X11_reaches x1 x2 x3 x4 σ) (fun q => ∀ rd : Value, Q (some (.int q.1)) (jh (jSrd S rd) q.2))) : jx_Sp (d + 107) 275 [.ref 65, .int x1, .int x2, .int x3, .int x4] (jh (jSrd S rd) σ) Q := by
  refine ⟨jm_i275, jm_at275, rfl, rfl, ?_⟩
  show jx_Ex _ jm_l275 jm_b275_0 [.ref 65, .int x1, .int x2, .int x3, .int x4, .retAddr 0] [] _ _
  unfold f_X11_reaches at h
  refine xo_2 rfl ?_
  refine xo_8 ?_
  refine xm_34 (i := 4172) (jSrd_ok hS rd) ly65 rfl ⟨Nat.le_of_ble_eq_true rfl, Nat.le_of_ble_eq_true rfl⟩ ?_
  refine xo_2 rfl ?_
  refine xo_0 rfl ?_
  refine xo_0 rfl ?_
  refine xo_0 rfl ?_
  refine xo_49 (st' := []) rfl rfl (xm_ly (jSrd_ok hS rd) ly65) rfl (Nat.le_of_ble_eq_true rfl) ?_
  refine t_X11_canRide hS ?_
  refine jw_mono (jw_bind h) (fun q1 h => ?_)
  show jx_Ex _ _ _ _ [.int q1.1] (jh (jSrd S rd) q1.2) _
  refine xo_55 (t := jm_b275_24) rfl (fun hc2 => ?_) (fun hc2 => ?_)
  · replace h := jw_pos hc2 h
    refine xo_8 ?_
    replace h := jw_some h
    exact xo_69 (h rd)
  · replace h := jw_neg hc2 h
    refine xo_2 rfl ?_
    refine xo_1 rfl ?_
    refine xo_49 (st' := []) rfl rfl (xm_ly (jSrd_ok hS rd) ly65) rfl (Nat.le_of_ble_eq_true rfl) ?_
    refine t_X11_isPlace hS ?_
    refine jw_mono (jw_bind h) (fun q3 h => ?_)
    show jx_Ex _ _ _ _ [.int q3.1] (jh (jSrd S rd) q3.2) _
    refine xo_56 (t := jm_b275_26) rfl (fun hc4 => ?_) (fun hc4 => ?_)
    · replace h := jw_pos hc4 h
      refine xo_2 rfl ?_
      refine xo_0 rfl ?_
      refine xo_0 rfl ?_
      refine xo_0 rfl ?_
      refine xo_8 ?_
      refine xo_49 (st' := []) rfl rfl (xm_ly (jSrd_ok hS rd) ly65) rfl (Nat.le_of_ble_eq_true rfl) ?_
      refine t_X11_mountThen hS ?_
      refine jw_mono (jw_bind h) (fun q5 h => ?_)
      show jx_Ex _ _ _ _ [] (jh (jSrd S rd) q5.2) _
      refine xo_8 ?_
      refine xo_5 (ls' := [.ref 65, .int x1, .int x2, .int x3, .int x4, .int 0]) rfl ?_
      exact t_X11_reaches_b37 hS 1000 h
    · replace h := jw_neg hc4 h
      refine xo_8 ?_
      replace h := jw_some h
      exact xo_69 (h rd)
/-- OfDifferentMindsModel.stopOf, at ['m', 'int', 'int', 'int', 'int'] U -/
def f_X11_stopOf (x1 : Int32) (x2 : Int32) (x3 : Int32) (x4 : Int32) (σ : jT) : Option (Int32 × jT) :=
  (f_X11_mountThen x1 x2 x3 x4 σ).bind fun q1 =>
  (f_X11_goRide_82 200 q1.2).bind fun q2 =>
  (f_X11_goesOn_82 (gs q2.2 4196 q2.1)).bind fun q4 =>
  if q4.1 = 0 then
    some ((q4.2.2 82 0), q4.2)
  else
    some ((-1), q4.2)
theorem t_X11_stopOf {S : jS} (hS : jMok S) {d : Nat} {Q : Option Value → jx_H → Prop} {rd : Value} {x1 : Int32} {x2 : Int32} {x3 : Int32} {x4 : Int32} {σ : jT} (h : jw (f_X11_stopOf x1 x2 x3 x4 σ) (fun q => ∀ rd : Value, Q (some (.int q.1)) (jh (jSrd S rd) q.2))) : jx_Sp (d + 108) 276 [.ref 65, .int x1, .int x2, .int x3, .int x4] (jh (jSrd S rd) σ) Q := by
  refine ⟨jm_i276, jm_at276, rfl, rfl, ?_⟩
  show jx_Ex _ jm_l276 jm_b276_0 [.ref 65, .int x1, .int x2, .int x3, .int x4] [] _ _
  unfold f_X11_stopOf at h
  refine xo_2 rfl ?_
  refine xo_0 rfl ?_
  refine xo_0 rfl ?_
  refine xo_0 rfl ?_
  refine xo_1 rfl ?_
  refine xo_49 (st' := []) rfl rfl (xm_ly (jSrd_ok hS rd) ly65) rfl (Nat.le_of_ble_eq_true rfl) ?_
  refine t_X11_mountThen hS ?_
  refine jw_mono (jw_bind h) (fun q1 h => ?_)
  show jx_Ex _ _ _ _ [] (jh (jSrd S rd) q1.2) _
  refine xo_2 rfl ?_
  refine xo_2 rfl ?_
  refine xo_2 rfl ?_
  refine xm_33 (i := 4194) (q := 82) (jSrd_ok hS rd) ly65 rfl (xm_P (jSrd_ok hS rd) (by decide)) ?_
  refine xo_10 ?_
  refine xo_49 (st' := [.ref 65]) rfl rfl (xm_ly (jSrd_ok hS rd) ly65) rfl (Nat.le_of_ble_eq_true rfl) ?_
  refine t_X11_goRide_82 hS ?_
  refine jw_mono (jw_bind h) (fun q2 h rd3 => ?_)
  show jx_Ex _ _ _ _ [.int q2.1, .ref 65] (jh (jSrd S rd3) q2.2) _
  refine xm_34 (i := 4196) (jSrd_ok hS rd3) ly65 rfl ⟨Nat.le_of_ble_eq_true rfl, Nat.le_of_ble_eq_true rfl⟩ ?_
  refine xo_2 rfl ?_
  refine xo_2 rfl ?_
  refine xm_33 (i := 4194) (q := 82) (jSrd_ok hS rd3) ly65 rfl (xm_P (jSrd_ok hS rd3) (by decide)) ?_
  refine xo_49 (st' := []) rfl rfl (xm_ly (jSrd_ok hS rd3) ly65) rfl (Nat.le_of_ble_eq_true rfl) ?_
  refine t_X11_goesOn_82 hS ?_
  refine jw_mono (jw_bind h) (fun q4 h => ?_)
  show jx_Ex _ _ _ _ [.int q4.1] (jh (jSrd S rd3) q4.2) _
  refine xo_55 (t := jm_b276_39) rfl (fun hc5 => ?_) (fun hc5 => ?_)
  · replace h := jw_pos hc5 h
    refine xo_2 rfl ?_
    refine xm_33 (i := 4194) (q := 82) (jSrd_ok hS rd3) ly65 rfl (xm_P (jSrd_ok hS rd3) (by decide)) ?_
    refine xo_8 ?_
    refine xm_38 (j := 0) (v := (q4.2.2 82 0)) (jSrd_ok hS rd3) ly82 ⟨Nat.le_of_ble_eq_true rfl, Nat.le_of_ble_eq_true rfl⟩ (by decide) (by decide) rfl ?_
    replace h := jw_some h
    exact xo_69 (h rd3)
  · replace h := jw_neg hc5 h
    refine xo_8 ?_
    refine xo_54 (t := jm_b276_45) rfl ?_
    replace h := jw_some h
    exact xo_69 (h rd3)
/-- OfDifferentMindsModel.pairs, at ['m', 'int', 'int'] U -/
def f_X11_pairs_b113 (k51 : Int32 → Int32 → Int32 → Int32 → Int32 → Int32 → Int32 → Int32 → jT → Option (Int32 × jT)) (x1 : Int32) (x2 : Int32) (x3 : Int32) (x4 : Int32) (x5 : Int32) (x6 : Int32) (x7 : Int32) (x8 : Int32) (σ : jT) : Option (Int32 × jT) :=
  k51 x1 x2 x3 x4 x5 x6 x7 (x8 + 1) σ
def f_X11_pairs_b51 (k39 : Int32 → Int32 → Int32 → Int32 → Int32 → Int32 → Int32 → jT → Option (Int32 × jT)) : Nat → Int32 → Int32 → Int32 → Int32 → Int32 → Int32 → Int32 → Int32 → jT → Option (Int32 × jT)
  | 0, _, _, _, _, _, _, _, _, _ => none
  | n + 1, x1, x2, x3, x4, x5, x6, x7, x8, σ =>
    if (σ.1 4165) ≤ x8 then
      k39 x1 x2 x3 x4 x5 x6 (x7 + 1) σ
    else
      if x7 = x8 then
        f_X11_pairs_b113 (f_X11_pairs_b51 k39 n) x1 x2 x3 x4 x5 x6 x7 x8 σ
      else
        (f_X11_stopOf x7 x8 x1 0 σ).bind fun q3 =>
        if q3.1 = x2 then
          if (q3.2.1 4196) < x6 then
            f_X11_pairs_b113 (f_X11_pairs_b51 k39 n) x1 x2 (x3 + 1) x7 x8 (q3.2.1 4196) x7 x8 q3.2
          else
            f_X11_pairs_b113 (f_X11_pairs_b51 k39 n) x1 x2 (x3 + 1) x4 x5 x6 x7 x8 q3.2
        else
          f_X11_pairs_b113 (f_X11_pairs_b51 k39 n) x1 x2 x3 x4 x5 x6 x7 x8 q3.2
def f_X11_pairs_b39 : Nat → Int32 → Int32 → Int32 → Int32 → Int32 → Int32 → Int32 → jT → Option (Int32 × jT)
  | 0, _, _, _, _, _, _, _, _ => none
  | n + 1, x1, x2, x3, x4, x5, x6, x7, σ =>
    if (σ.1 4165) ≤ x7 then
      if x3 ≤ 0 then
        some (x3, (gs σ 4171 0))
      else
        (f_X11_tell x4 (gs σ 4171 0)).bind fun q3 =>
        (f_X11_tell x5 q3.2).bind fun q4 =>
        (f_X11_tell x6 q4.2).bind fun q5 =>
        some (x3, q5.2)
    else
      f_X11_pairs_b51 (f_X11_pairs_b39 n) 1000 x1 x2 x3 x4 x5 x6 x7 0 σ
def f_X11_pairs (x1 : Int32) (x2 : Int32) (σ : jT) : Option (Int32 × jT) :=
  (f_X11_isPlace x1 (gs σ 4172 0)).bind fun q1 =>
  if q1.1 = 0 then
    some ((-1), q1.2)
  else
    (f_X11_isPlace x2 q1.2).bind fun q3 =>
    if ¬ q3.1 = 0 then
      f_X11_pairs_b39 1000 x1 x2 0 (-1) (-1) 1000000 0 q3.2
    else
      some ((-1), q3.2)
theorem t_X11_pairs_b113 {S : jS} (hS : jMok S) {d : Nat} {Q : Option Value → jx_H → Prop} {k51 : Int32 → Int32 → Int32 → Int32 → Int32 → Int32 → Int32 → Int32 → jT → Option (Int32 × jT)} (hk51 : ∀ {rd : Value} {x1 : Int32} {x2 : Int32} {x3 : Int32} {x4 : Int32} {x5 : Int32} {x6 : Int32} {x7 : Int32} {x8 : Int32} {σ : jT}, jw (k51 x1 x2 x3 x4 x5 x6 x7 x8 σ) (fun q => ∀ rd : Value, Q (some (.int q.1)) (jh (jSrd S rd) q.2)) → jx_Ex (d + 109) jm_l277 jm_b277_51 [.ref 65, .int x1, .int x2, .int x3, .int x4, .int x5, .int x6, .int x7, .int x8] [] (jh (jSrd S rd) σ) Q) {rd : Value} {x1 : Int32} {x2 : Int32} {x3 : Int32} {x4 : Int32} {x5 : Int32} {x6 : Int32} {x7 : Int32} {x8 : Int32} {σ : jT} (h : jw (f_X11_pairs_b113 k51 x1 x2 x3 x4 x5 x6 x7 x8 σ) (fun q => ∀ rd : Value, Q (some (.int q.1)) (jh (jSrd S rd) q.2))) : jx_Ex (d + 109) jm_l277 jm_b277_113 [.ref 65, .int x1, .int x2, .int x3, .int x4, .int x5, .int x6, .int x7, .int x8] [] (jh (jSrd S rd) σ) Q := by
  unfold f_X11_pairs_b113 at h
  refine xo_13 (ls' := [.ref 65, .int x1, .int x2, .int x3, .int x4, .int x5, .int x6, .int x7, .int (x8 + 1)]) rfl rfl ?_
  refine xo_54 (t := jm_b277_51) rfl ?_
  exact hk51 h
theorem t_X11_pairs_b51 {S : jS} (hS : jMok S) {d : Nat} {Q : Option Value → jx_H → Prop} {k39 : Int32 → Int32 → Int32 → Int32 → Int32 → Int32 → Int32 → jT → Option (Int32 × jT)} (hk39 : ∀ {rd : Value} {x1 : Int32} {x2 : Int32} {x3 : Int32} {x4 : Int32} {x5 : Int32} {x6 : Int32} {x7 : Int32} {w8 : Value} {σ : jT}, jw (k39 x1 x2 x3 x4 x5 x6 x7 σ) (fun q => ∀ rd : Value, Q (some (.int q.1)) (jh (jSrd S rd) q.2)) → jx_Ex (d + 109) jm_l277 jm_b277_39 [.ref 65, .int x1, .int x2, .int x3, .int x4, .int x5, .int x6, .int x7, w8] [] (jh (jSrd S rd) σ) Q) : ∀ (n : Nat) {rd : Value} {x1 : Int32} {x2 : Int32} {x3 : Int32} {x4 : Int32} {x5 : Int32} {x6 : Int32} {x7 : Int32} {x8 : Int32} {σ : jT}, jw (f_X11_pairs_b51 k39 n x1 x2 x3 x4 x5 x6 x7 x8 σ) (fun q => ∀ rd : Value, Q (some (.int q.1)) (jh (jSrd S rd) q.2)) → jx_Ex (d + 109) jm_l277 jm_b277_51 [.ref 65, .int x1, .int x2, .int x3, .int x4, .int x5, .int x6, .int x7, .int x8] [] (jh (jSrd S rd) σ) Q := by
  intro n
  induction n with
  | zero => intro rd x1 x2 x3 x4 x5 x6 x7 x8 σ h; exact jw_none h
  | succ n ih =>
    intro rd x1 x2 x3 x4 x5 x6 x7 x8 σ h
    rw [f_X11_pairs_b51] at h
    refine xo_1 rfl ?_
    refine xo_2 rfl ?_
    refine xm_32 (i := 4165) (v := (σ.1 4165)) (jSrd_ok hS rd) ly65 rfl ⟨Nat.le_of_ble_eq_true rfl, Nat.le_of_ble_eq_true rfl⟩ rfl ?_
    refine xo_64 (t := jm_b277_119) rfl (fun hc1 => ?_) (fun hc1 => ?_)
    · replace h := jw_pos hc1 h
      refine xo_13 (ls' := [.ref 65, .int x1, .int x2, .int x3, .int x4, .int x5, .int x6, .int (x7 + 1), .int x8]) rfl rfl ?_
      refine xo_54 (t := jm_b277_39) rfl ?_
      exact hk39 h
    · replace h := jw_neg hc1 h
      refine xo_1 rfl ?_
      refine xo_1 rfl ?_
      refine xo_61 (t := jm_b277_113) rfl (fun hc2 => ?_) (fun hc2 => ?_)
      · replace h := jw_pos hc2 h
        exact t_X11_pairs_b113 hS ih h
      · replace h := jw_neg hc2 h
        refine xo_2 rfl ?_
        refine xo_1 rfl ?_
        refine xo_1 rfl ?_
        refine xo_0 rfl ?_
        refine xo_8 ?_
        refine xo_49 (st' := []) rfl rfl (xm_ly (jSrd_ok hS rd) ly65) rfl (Nat.le_of_ble_eq_true rfl) ?_
        refine t_X11_stopOf hS ?_
        refine jw_mono (jw_bind h) (fun q3 h rd4 => ?_)
        show jx_Ex _ _ _ _ [.int q3.1] (jh (jSrd S rd4) q3.2) _
        refine xo_0 rfl ?_
        refine xo_61 (t := jm_b277_84) rfl (fun hc5 => ?_) (fun hc5 => ?_)
        · replace h := jw_pos hc5 h
          refine xo_13 (ls' := [.ref 65, .int x1, .int x2, .int (x3 + 1), .int x4, .int x5, .int x6, .int x7, .int x8]) rfl rfl ?_
          refine xo_2 rfl ?_
          refine xm_32 (i := 4196) (v := (q3.2.1 4196)) (jSrd_ok hS rd4) ly65 rfl ⟨Nat.le_of_ble_eq_true rfl, Nat.le_of_ble_eq_true rfl⟩ rfl ?_
          refine xo_1 rfl ?_
          refine xo_63 (t := jm_b277_99) rfl (fun hc6 => ?_) (fun hc6 => ?_)
          · replace h := jw_pos hc6 h
            refine xo_1 rfl ?_
            refine xo_5 (ls' := [.ref 65, .int x1, .int x2, .int (x3 + 1), .int x7, .int x5, .int x6, .int x7, .int x8]) rfl ?_
            refine xo_1 rfl ?_
            refine xo_5 (ls' := [.ref 65, .int x1, .int x2, .int (x3 + 1), .int x7, .int x8, .int x6, .int x7, .int x8]) rfl ?_
            refine xo_2 rfl ?_
            refine xm_32 (i := 4196) (v := (q3.2.1 4196)) (jSrd_ok hS rd4) ly65 rfl ⟨Nat.le_of_ble_eq_true rfl, Nat.le_of_ble_eq_true rfl⟩ rfl ?_
            refine xo_5 (ls' := [.ref 65, .int x1, .int x2, .int (x3 + 1), .int x7, .int x8, .int (q3.2.1 4196), .int x7, .int x8]) rfl ?_
            exact t_X11_pairs_b113 hS ih h
          · replace h := jw_neg hc6 h
            refine xo_54 (t := jm_b277_113) rfl ?_
            exact t_X11_pairs_b113 hS ih h
        · replace h := jw_neg hc5 h
          refine xo_54 (t := jm_b277_113) rfl ?_
          exact t_X11_pairs_b113 hS ih h
theorem t_X11_pairs_b39 {S : jS} (hS : jMok S) {d : Nat} {Q : Option Value → jx_H → Prop} : ∀ (n : Nat) {rd : Value} {x1 : Int32} {x2 : Int32} {x3 : Int32} {x4 : Int32} {x5 : Int32} {x6 : Int32} {x7 : Int32} {w8 : Value} {σ : jT}, jw (f_X11_pairs_b39 n x1 x2 x3 x4 x5 x6 x7 σ) (fun q => ∀ rd : Value, Q (some (.int q.1)) (jh (jSrd S rd) q.2)) → jx_Ex (d + 109) jm_l277 jm_b277_39 [.ref 65, .int x1, .int x2, .int x3, .int x4, .int x5, .int x6, .int x7, w8] [] (jh (jSrd S rd) σ) Q := by
  intro n
  induction n with
  | zero => intro rd x1 x2 x3 x4 x5 x6 x7 w8 σ h; exact jw_none h
  | succ n ih =>
    intro rd x1 x2 x3 x4 x5 x6 x7 w8 σ h
    rw [f_X11_pairs_b39] at h
    refine xo_1 rfl ?_
    refine xo_2 rfl ?_
    refine xm_32 (i := 4165) (v := (σ.1 4165)) (jSrd_ok hS rd) ly65 rfl ⟨Nat.le_of_ble_eq_true rfl, Nat.le_of_ble_eq_true rfl⟩ rfl ?_
    refine xo_64 (t := jm_b277_125) rfl (fun hc1 => ?_) (fun hc1 => ?_)
    · replace h := jw_pos hc1 h
      refine xo_2 rfl ?_
      refine xo_8 ?_
      refine xm_34 (i := 4171) (jSrd_ok hS rd) ly65 rfl ⟨Nat.le_of_ble_eq_true rfl, Nat.le_of_ble_eq_true rfl⟩ ?_
      refine xo_0 rfl ?_
      refine xo_60 (t := jm_b277_152) rfl (fun hc2 => ?_) (fun hc2 => ?_)
      · replace h := jw_pos hc2 h
        refine xo_0 rfl ?_
        replace h := jw_some h
        exact xo_69 (h rd)
      · replace h := jw_neg hc2 h
        refine xo_2 rfl ?_
        refine xo_1 rfl ?_
        refine xo_49 (st' := []) rfl rfl (xm_ly (jSrd_ok hS rd) ly65) rfl (Nat.le_of_ble_eq_true rfl) ?_
        refine t_X11_tell hS ?_
        refine jw_mono (jw_bind h) (fun q3 h => ?_)
        show jx_Ex _ _ _ _ [] (jh (jSrd S rd) q3.2) _
        refine xo_2 rfl ?_
        refine xo_1 rfl ?_
        refine xo_49 (st' := []) rfl rfl (xm_ly (jSrd_ok hS rd) ly65) rfl (Nat.le_of_ble_eq_true rfl) ?_
        refine t_X11_tell hS ?_
        refine jw_mono (jw_bind h) (fun q4 h => ?_)
        show jx_Ex _ _ _ _ [] (jh (jSrd S rd) q4.2) _
        refine xo_2 rfl ?_
        refine xo_1 rfl ?_
        refine xo_49 (st' := []) rfl rfl (xm_ly (jSrd_ok hS rd) ly65) rfl (Nat.le_of_ble_eq_true rfl) ?_
        refine t_X11_tell hS ?_
        refine jw_mono (jw_bind h) (fun q5 h => ?_)
        show jx_Ex _ _ _ _ [] (jh (jSrd S rd) q5.2) _
        refine xo_0 rfl ?_
        replace h := jw_some h
        exact xo_69 (h rd)
    · replace h := jw_neg hc1 h
      refine xo_8 ?_
      refine xo_5 (ls' := [.ref 65, .int x1, .int x2, .int x3, .int x4, .int x5, .int x6, .int x7, .int 0]) rfl ?_
      exact t_X11_pairs_b51 hS ih 1000 h
theorem t_X11_pairs {S : jS} (hS : jMok S) {d : Nat} {Q : Option Value → jx_H → Prop} {rd : Value} {x1 : Int32} {x2 : Int32} {σ : jT} (h : jw (f_X11_pairs x1 x2 σ) (fun q => ∀ rd : Value, Q (some (.int q.1)) (jh (jSrd S rd) q.2))) : jx_Sp (d + 109) 277 [.ref 65, .int x1, .int x2] (jh (jSrd S rd) σ) Q := by
  refine ⟨jm_i277, jm_at277, rfl, rfl, ?_⟩
  show jx_Ex _ jm_l277 jm_b277_0 [.ref 65, .int x1, .int x2, .retAddr 0, .retAddr 0, .retAddr 0, .retAddr 0, .retAddr 0, .retAddr 0] [] _ _
  unfold f_X11_pairs at h
  refine xo_2 rfl ?_
  refine xo_8 ?_
  refine xm_34 (i := 4172) (jSrd_ok hS rd) ly65 rfl ⟨Nat.le_of_ble_eq_true rfl, Nat.le_of_ble_eq_true rfl⟩ ?_
  refine xo_2 rfl ?_
  refine xo_0 rfl ?_
  refine xo_49 (st' := []) rfl rfl (xm_ly (jSrd_ok hS rd) ly65) rfl (Nat.le_of_ble_eq_true rfl) ?_
  refine t_X11_isPlace hS ?_
  refine jw_mono (jw_bind h) (fun q1 h => ?_)
  show jx_Ex _ _ _ _ [.int q1.1] (jh (jSrd S rd) q1.2) _
  refine xo_55 (t := jm_b277_21) rfl (fun hc2 => ?_) (fun hc2 => ?_)
  · replace h := jw_pos hc2 h
    refine xo_8 ?_
    replace h := jw_some h
    exact xo_69 (h rd)
  · replace h := jw_neg hc2 h
    refine xo_2 rfl ?_
    refine xo_0 rfl ?_
    refine xo_49 (st' := []) rfl rfl (xm_ly (jSrd_ok hS rd) ly65) rfl (Nat.le_of_ble_eq_true rfl) ?_
    refine t_X11_isPlace hS ?_
    refine jw_mono (jw_bind h) (fun q3 h => ?_)
    show jx_Ex _ _ _ _ [.int q3.1] (jh (jSrd S rd) q3.2) _
    refine xo_56 (t := jm_b277_23) rfl (fun hc4 => ?_) (fun hc4 => ?_)
    · replace h := jw_pos hc4 h
      refine xo_8 ?_
      refine xo_4 (ls' := [.ref 65, .int x1, .int x2, .int 0, .retAddr 0, .retAddr 0, .retAddr 0, .retAddr 0, .retAddr 0]) rfl ?_
      refine xo_8 ?_
      refine xo_5 (ls' := [.ref 65, .int x1, .int x2, .int 0, .int (-1), .retAddr 0, .retAddr 0, .retAddr 0, .retAddr 0]) rfl ?_
      refine xo_8 ?_
      refine xo_5 (ls' := [.ref 65, .int x1, .int x2, .int 0, .int (-1), .int (-1), .retAddr 0, .retAddr 0, .retAddr 0]) rfl ?_
      refine xo_12 ?_
      refine xo_5 (ls' := [.ref 65, .int x1, .int x2, .int 0, .int (-1), .int (-1), .int 1000000, .retAddr 0, .retAddr 0]) rfl ?_
      refine xo_8 ?_
      refine xo_5 (ls' := [.ref 65, .int x1, .int x2, .int 0, .int (-1), .int (-1), .int 1000000, .int 0, .retAddr 0]) rfl ?_
      exact t_X11_pairs_b39 hS 1000 h
    · replace h := jw_neg hc4 h
      refine xo_8 ?_
      replace h := jw_some h
      exact xo_69 (h rd)
/-- OfDifferentMindsModel.layStops, at ['m'] U -/
def f_X11_layStops_b62 (k20 : Int32 → Int32 → Int32 → jT → Option (Int32 × jT)) (x1 : Int32) (x2 : Int32) (x3 : Int32) (s0 : Int32) (s1 : Int32) (σ : jT) : Option (Int32 × jT) :=
  if jx_in s1 360 then
  k20 x1 x2 (x3 + 1) (gA σ 84 s1.toNatClampNeg s0)
  else none
def f_X11_layStops_b20 (k12 : Int32 → Int32 → jT → Option (Int32 × jT)) : Nat → Int32 → Int32 → Int32 → jT → Option (Int32 × jT)
  | 0, _, _, _, _ => none
  | n + 1, x1, x2, x3, σ =>
    if 6 ≤ x3 then
      k12 x1 (x2 + 1) σ
    else
      (f_X11_areTwo x2 x3 σ).bind fun q2 =>
      if q2.1 = 0 then
        f_X11_layStops_b62 (f_X11_layStops_b20 k12 n) x1 x2 x3 (-1) ((((x1 * 6) + x2) * 6) + x3) q2.2
      else
        (f_X11_stopOf x2 x3 x1 1 q2.2).bind fun q4 =>
        f_X11_layStops_b62 (f_X11_layStops_b20 k12 n) x1 x2 x3 q4.1 ((((x1 * 6) + x2) * 6) + x3) q4.2
def f_X11_layStops_b12 (k2 : Int32 → jT → Option (Int32 × jT)) : Nat → Int32 → Int32 → jT → Option (Int32 × jT)
  | 0, _, _, _ => none
  | n + 1, x1, x2, σ =>
    if 6 ≤ x2 then
      k2 (x1 + 1) σ
    else
      f_X11_layStops_b20 (f_X11_layStops_b12 k2 n) 1000 x1 x2 0 σ
def f_X11_layStops_b2 : Nat → Int32 → jT → Option (Int32 × jT)
  | 0, _, _ => none
  | n + 1, x1, σ =>
    if (σ.1 4161) ≤ x1 then
      some (0, σ)
    else
      f_X11_layStops_b12 (f_X11_layStops_b2 n) 1000 x1 0 σ
def f_X11_layStops (σ : jT) : Option (Int32 × jT) :=
  f_X11_layStops_b2 1000 0 σ
theorem t_X11_layStops_b62 {S : jS} (hS : jMok S) {d : Nat} {Q : Option Value → jx_H → Prop} {k20 : Int32 → Int32 → Int32 → jT → Option (Int32 × jT)} (hk20 : ∀ {rd : Value} {x1 : Int32} {x2 : Int32} {x3 : Int32} {σ : jT}, jw (k20 x1 x2 x3 σ) (fun q => ∀ rd : Value, Q none (jh (jSrd S rd) q.2)) → jx_Ex (d + 109) jm_l279 jm_b279_20 [.ref 65, .int x1, .int x2, .int x3] [] (jh (jSrd S rd) σ) Q) {rd : Value} {x1 : Int32} {x2 : Int32} {x3 : Int32} {s0 : Int32} {s1 : Int32} {σ : jT} (h : jw (f_X11_layStops_b62 k20 x1 x2 x3 s0 s1 σ) (fun q => ∀ rd : Value, Q none (jh (jSrd S rd) q.2))) : jx_Ex (d + 109) jm_l279 jm_b279_62 [.ref 65, .int x1, .int x2, .int x3] [.int s0, .int s1, .ref 84] (jh (jSrd S rd) σ) Q := by
  unfold f_X11_layStops_b62 at h
  obtain ⟨hi1, h⟩ := jw_chk h
  refine xm_41 (j := s1.toNatClampNeg) (jSrd_ok hS rd) ly84 ⟨Nat.le_of_ble_eq_true rfl, Nat.le_of_ble_eq_true rfl⟩ hi1 rfl ?_
  refine xo_13 (ls' := [.ref 65, .int x1, .int x2, .int (x3 + 1)]) rfl rfl ?_
  refine xo_54 (t := jm_b279_20) rfl ?_
  exact hk20 h
theorem t_X11_layStops_b20 {S : jS} (hS : jMok S) {d : Nat} {Q : Option Value → jx_H → Prop} {k12 : Int32 → Int32 → jT → Option (Int32 × jT)} (hk12 : ∀ {rd : Value} {x1 : Int32} {x2 : Int32} {w3 : Value} {σ : jT}, jw (k12 x1 x2 σ) (fun q => ∀ rd : Value, Q none (jh (jSrd S rd) q.2)) → jx_Ex (d + 109) jm_l279 jm_b279_12 [.ref 65, .int x1, .int x2, w3] [] (jh (jSrd S rd) σ) Q) : ∀ (n : Nat) {rd : Value} {x1 : Int32} {x2 : Int32} {x3 : Int32} {σ : jT}, jw (f_X11_layStops_b20 k12 n x1 x2 x3 σ) (fun q => ∀ rd : Value, Q none (jh (jSrd S rd) q.2)) → jx_Ex (d + 109) jm_l279 jm_b279_20 [.ref 65, .int x1, .int x2, .int x3] [] (jh (jSrd S rd) σ) Q := by
  intro n
  induction n with
  | zero => intro rd x1 x2 x3 σ h; exact jw_none h
  | succ n ih =>
    intro rd x1 x2 x3 σ h
    rw [f_X11_layStops_b20] at h
    refine xo_0 rfl ?_
    refine xo_9 ?_
    refine xo_64 (t := jm_b279_69) rfl (fun hc1 => ?_) (fun hc1 => ?_)
    · replace h := jw_pos hc1 h
      refine xo_13 (ls' := [.ref 65, .int x1, .int (x2 + 1), .int x3]) rfl rfl ?_
      refine xo_54 (t := jm_b279_12) rfl ?_
      exact hk12 h
    · replace h := jw_neg hc1 h
      refine xo_2 rfl ?_
      refine xm_33 (i := 4197) (q := 84) (jSrd_ok hS rd) ly65 rfl (xm_P (jSrd_ok hS rd) (by decide)) ?_
      refine xo_0 rfl ?_
      refine xo_9 ?_
      refine xo_16 ?_
      refine xo_0 rfl ?_
      refine xo_14 ?_
      refine xo_9 ?_
      refine xo_16 ?_
      refine xo_0 rfl ?_
      refine xo_14 ?_
      refine xo_2 rfl ?_
      refine xo_0 rfl ?_
      refine xo_0 rfl ?_
      refine xo_49 (st' := [.int ((((x1 * 6) + x2) * 6) + x3), .ref 84]) rfl rfl (xm_ly (jSrd_ok hS rd) ly65) rfl (Nat.le_of_ble_eq_true rfl) ?_
      refine t_X11_areTwo hS ?_
      refine jw_mono (jw_bind h) (fun q2 h => ?_)
      show jx_Ex _ _ _ _ [.int q2.1, .int ((((x1 * 6) + x2) * 6) + x3), .ref 84] (jh (jSrd S rd) q2.2) _
      refine xo_55 (t := jm_b279_61) rfl (fun hc3 => ?_) (fun hc3 => ?_)
      · replace h := jw_pos hc3 h
        refine xo_8 ?_
        exact t_X11_layStops_b62 hS ih h
      · replace h := jw_neg hc3 h
        refine xo_2 rfl ?_
        refine xo_0 rfl ?_
        refine xo_0 rfl ?_
        refine xo_0 rfl ?_
        refine xo_8 ?_
        refine xo_49 (st' := [.int ((((x1 * 6) + x2) * 6) + x3), .ref 84]) rfl rfl (xm_ly (jSrd_ok hS rd) ly65) rfl (Nat.le_of_ble_eq_true rfl) ?_
        refine t_X11_stopOf hS ?_
        refine jw_mono (jw_bind h) (fun q4 h rd5 => ?_)
        show jx_Ex _ _ _ _ [.int q4.1, .int ((((x1 * 6) + x2) * 6) + x3), .ref 84] (jh (jSrd S rd5) q4.2) _
        refine xo_54 (t := jm_b279_62) rfl ?_
        exact t_X11_layStops_b62 hS ih h
theorem t_X11_layStops_b12 {S : jS} (hS : jMok S) {d : Nat} {Q : Option Value → jx_H → Prop} {k2 : Int32 → jT → Option (Int32 × jT)} (hk2 : ∀ {rd : Value} {x1 : Int32} {w2 : Value} {w3 : Value} {σ : jT}, jw (k2 x1 σ) (fun q => ∀ rd : Value, Q none (jh (jSrd S rd) q.2)) → jx_Ex (d + 109) jm_l279 jm_b279_2 [.ref 65, .int x1, w2, w3] [] (jh (jSrd S rd) σ) Q) : ∀ (n : Nat) {rd : Value} {x1 : Int32} {x2 : Int32} {w3 : Value} {σ : jT}, jw (f_X11_layStops_b12 k2 n x1 x2 σ) (fun q => ∀ rd : Value, Q none (jh (jSrd S rd) q.2)) → jx_Ex (d + 109) jm_l279 jm_b279_12 [.ref 65, .int x1, .int x2, w3] [] (jh (jSrd S rd) σ) Q := by
  intro n
  induction n with
  | zero => intro rd x1 x2 w3 σ h; exact jw_none h
  | succ n ih =>
    intro rd x1 x2 w3 σ h
    rw [f_X11_layStops_b12] at h
    refine xo_0 rfl ?_
    refine xo_9 ?_
    refine xo_64 (t := jm_b279_75) rfl (fun hc1 => ?_) (fun hc1 => ?_)
    · replace h := jw_pos hc1 h
      refine xo_13 (ls' := [.ref 65, .int (x1 + 1), .int x2, w3]) rfl rfl ?_
      refine xo_54 (t := jm_b279_2) rfl ?_
      exact hk2 h
    · replace h := jw_neg hc1 h
      refine xo_8 ?_
      refine xo_4 (ls' := [.ref 65, .int x1, .int x2, .int 0]) rfl ?_
      exact t_X11_layStops_b20 hS ih 1000 h
theorem t_X11_layStops_b2 {S : jS} (hS : jMok S) {d : Nat} {Q : Option Value → jx_H → Prop} : ∀ (n : Nat) {rd : Value} {x1 : Int32} {w2 : Value} {w3 : Value} {σ : jT}, jw (f_X11_layStops_b2 n x1 σ) (fun q => ∀ rd : Value, Q none (jh (jSrd S rd) q.2)) → jx_Ex (d + 109) jm_l279 jm_b279_2 [.ref 65, .int x1, w2, w3] [] (jh (jSrd S rd) σ) Q := by
  intro n
  induction n with
  | zero => intro rd x1 w2 w3 σ h; exact jw_none h
  | succ n ih =>
    intro rd x1 w2 w3 σ h
    rw [f_X11_layStops_b2] at h
    refine xo_0 rfl ?_
    refine xo_2 rfl ?_
    refine xm_32 (i := 4161) (v := (σ.1 4161)) (jSrd_ok hS rd) ly65 rfl ⟨Nat.le_of_ble_eq_true rfl, Nat.le_of_ble_eq_true rfl⟩ rfl ?_
    refine xo_64 (t := jm_b279_81) rfl (fun hc1 => ?_) (fun hc1 => ?_)
    · replace h := jw_pos hc1 h
      replace h := jw_some h
      exact xo_71 (h rd)
    · replace h := jw_neg hc1 h
      refine xo_8 ?_
      refine xo_4 (ls' := [.ref 65, .int x1, .int 0, w3]) rfl ?_
      exact t_X11_layStops_b12 hS ih 1000 h
theorem t_X11_layStops {S : jS} (hS : jMok S) {d : Nat} {Q : Option Value → jx_H → Prop} {rd : Value} {σ : jT} (h : jw (f_X11_layStops σ) (fun q => ∀ rd : Value, Q none (jh (jSrd S rd) q.2))) : jx_Sp (d + 109) 279 [.ref 65] (jh (jSrd S rd) σ) Q := by
  refine ⟨jm_i279, jm_at279, rfl, rfl, ?_⟩
  show jx_Ex _ jm_l279 jm_b279_0 [.ref 65, .retAddr 0, .retAddr 0, .retAddr 0] [] _ _
  unfold f_X11_layStops at h
  refine xo_8 ?_
  refine xo_4 (ls' := [.ref 65, .int 0, .retAddr 0, .retAddr 0]) rfl ?_
  exact t_X11_layStops_b2 hS 1000 h
/-- OfDifferentMindsModel.stopAt, at ['m', 'int', 'int', 'int'] K -/
def f_X11_stopAt (x1 : Int32) (x2 : Int32) (x3 : Int32) (σ : jT) : Option (Int32 × jT) :=
  if jx_in ((((x1 * 6) + x2) * 6) + x3) 360 then
  some ((σ.2 84 ((((x1 * 6) + x2) * 6) + x3).toNatClampNeg), σ)
  else none
theorem t_X11_stopAt {S : jS} (hS : jMok S) {d : Nat} {Q : Option Value → jx_H → Prop} {rd : Value} {x1 : Int32} {x2 : Int32} {x3 : Int32} {σ : jT} (h : jw (f_X11_stopAt x1 x2 x3 σ) (fun q => Q (some (.int q.1)) (jh (jSrd S rd) q.2))) : jx_Sp (d) 278 [.ref 65, .int x1, .int x2, .int x3] (jh (jSrd S rd) σ) Q := by
  refine ⟨jm_i278, jm_at278, rfl, rfl, ?_⟩
  show jx_Ex _ jm_l278 jm_b278_0 [.ref 65, .int x1, .int x2, .int x3] [] _ _
  unfold f_X11_stopAt at h
  refine xo_2 rfl ?_
  refine xm_33 (i := 4197) (q := 84) (jSrd_ok hS rd) ly65 rfl (xm_P (jSrd_ok hS rd) (by decide)) ?_
  refine xo_0 rfl ?_
  refine xo_9 ?_
  refine xo_16 ?_
  refine xo_0 rfl ?_
  refine xo_14 ?_
  refine xo_9 ?_
  refine xo_16 ?_
  refine xo_0 rfl ?_
  refine xo_14 ?_
  obtain ⟨hi1, h⟩ := jw_chk h
  refine xm_38 (j := ((((x1 * 6) + x2) * 6) + x3).toNatClampNeg) (v := (σ.2 84 ((((x1 * 6) + x2) * 6) + x3).toNatClampNeg)) (jSrd_ok hS rd) ly84 ⟨Nat.le_of_ble_eq_true rfl, Nat.le_of_ble_eq_true rfl⟩ hi1 rfl rfl ?_
  replace h := jw_some h
  exact xo_69 h
/-- OfDifferentMindsModel.ridesBy, at ['m', 'int', 'int', 'int', 'int', 'int'] K -/
def f_X11_ridesBy_b47 (x6 : Int32) (σ : jT) : Option (Int32 × jT) :=
  if jx_in x6 10 then
  some ((jx_min 1000000 ((σ.2 85 x6.toNatClampNeg) + 1)), σ)
  else none
def f_X11_ridesBy (x1 : Int32) (x2 : Int32) (x3 : Int32) (x4 : Int32) (x5 : Int32) (σ : jT) : Option (Int32 × jT) :=
  (f_X11_stopAt x1 x2 x3 σ).bind fun q1 =>
  if ¬ q1.1 = (-1) then
    if ¬ q1.1 = x5 then
      if q1.1 = x4 then
        f_X11_ridesBy_b47 q1.1 q1.2
      else
        (f_X11_has (q1.2.1 4164) q1.1 q1.2).bind fun q5 =>
        if q5.1 = 0 then
          some (1000000, q5.2)
        else
          f_X11_ridesBy_b47 q1.1 q5.2
    else
      some (1, q1.2)
  else
    some (1000000, q1.2)
theorem t_X11_ridesBy_b47 {S : jS} (hS : jMok S) {d : Nat} {Q : Option Value → jx_H → Prop} {rd : Value} {x6 : Int32} {w1 : Value} {w2 : Value} {w3 : Value} {w4 : Value} {w5 : Value} {σ : jT} (h : jw (f_X11_ridesBy_b47 x6 σ) (fun q => Q (some (.int q.1)) (jh (jSrd S rd) q.2))) : jx_Ex (d + 1) jm_l280 jm_b280_47 [.ref 65, w1, w2, w3, w4, w5, .int x6] [] (jh (jSrd S rd) σ) Q := by
  unfold f_X11_ridesBy_b47 at h
  refine xo_12 ?_
  refine xo_2 rfl ?_
  refine xm_33 (i := 4198) (q := 85) (jSrd_ok hS rd) ly65 rfl (xm_P (jSrd_ok hS rd) (by decide)) ?_
  refine xo_1 rfl ?_
  obtain ⟨hi1, h⟩ := jw_chk h
  refine xm_38 (j := x6.toNatClampNeg) (v := (σ.2 85 x6.toNatClampNeg)) (jSrd_ok hS rd) ly85 ⟨Nat.le_of_ble_eq_true rfl, Nat.le_of_ble_eq_true rfl⟩ hi1 rfl rfl ?_
  refine xo_8 ?_
  refine xo_14 ?_
  refine xo_73 (Nat.le_of_ble_eq_true rfl) ?_
  refine xo_54 (t := jm_b280_68) rfl ?_
  replace h := jw_some h
  exact xo_69 h
theorem t_X11_ridesBy {S : jS} (hS : jMok S) {d : Nat} {Q : Option Value → jx_H → Prop} {rd : Value} {x1 : Int32} {x2 : Int32} {x3 : Int32} {x4 : Int32} {x5 : Int32} {σ : jT} (h : jw (f_X11_ridesBy x1 x2 x3 x4 x5 σ) (fun q => Q (some (.int q.1)) (jh (jSrd S rd) q.2))) : jx_Sp (d + 1) 280 [.ref 65, .int x1, .int x2, .int x3, .int x4, .int x5] (jh (jSrd S rd) σ) Q := by
  refine ⟨jm_i280, jm_at280, rfl, rfl, ?_⟩
  show jx_Ex _ jm_l280 jm_b280_0 [.ref 65, .int x1, .int x2, .int x3, .int x4, .int x5, .retAddr 0] [] _ _
  unfold f_X11_ridesBy at h
  refine xo_2 rfl ?_
  refine xo_0 rfl ?_
  refine xo_0 rfl ?_
  refine xo_0 rfl ?_
  refine xo_49 (st' := []) rfl rfl (xm_ly (jSrd_ok hS rd) ly65) rfl (Nat.le_of_ble_eq_true rfl) ?_
  refine t_X11_stopAt hS ?_
  refine jw_mono (jw_bind h) (fun q1 h => ?_)
  show jx_Ex _ _ _ _ [.int q1.1] (jh (jSrd S rd) q1.2) _
  refine xo_5 (ls' := [.ref 65, .int x1, .int x2, .int x3, .int x4, .int x5, .int q1.1]) rfl ?_
  refine xo_1 rfl ?_
  refine xo_8 ?_
  refine xo_62 (t := jm_b280_19) rfl (fun hc2 => ?_) (fun hc2 => ?_)
  · replace h := jw_pos hc2 h
    refine xo_1 rfl ?_
    refine xo_1 rfl ?_
    refine xo_62 (t := jm_b280_28) rfl (fun hc3 => ?_) (fun hc3 => ?_)
    · replace h := jw_pos hc3 h
      refine xo_1 rfl ?_
      refine xo_1 rfl ?_
      refine xo_61 (t := jm_b280_47) rfl (fun hc4 => ?_) (fun hc4 => ?_)
      · replace h := jw_pos hc4 h
        exact t_X11_ridesBy_b47 hS h
      · replace h := jw_neg hc4 h
        refine xo_2 rfl ?_
        refine xm_32 (i := 4164) (v := (q1.2.1 4164)) (jSrd_ok hS rd) ly65 rfl ⟨Nat.le_of_ble_eq_true rfl, Nat.le_of_ble_eq_true rfl⟩ rfl ?_
        refine xo_1 rfl ?_
        refine xo_50 (st' := []) rfl rfl rfl (Nat.le_of_ble_eq_true rfl) ?_
        refine t_X11_has hS ?_
        refine jw_mono (jw_bind h) (fun q5 h => ?_)
        show jx_Ex _ _ _ _ [.int q5.1] (jh (jSrd S rd) q5.2) _
        refine xo_55 (t := jm_b280_65) rfl (fun hc6 => ?_) (fun hc6 => ?_)
        · replace h := jw_pos hc6 h
          refine xo_12 ?_
          replace h := jw_some h
          exact xo_69 h
        · replace h := jw_neg hc6 h
          exact t_X11_ridesBy_b47 hS h
    · replace h := jw_neg hc3 h
      refine xo_8 ?_
      replace h := jw_some h
      exact xo_69 h
  · replace h := jw_neg hc2 h
    refine xo_12 ?_
    replace h := jw_some h
    exact xo_69 h
/-- OfDifferentMindsModel.changes, at ['m', 'int', 'int'] U -/
def f_X11_changes_b259 (k192 : Int32 → Int32 → Int32 → Int32 → jT → Option (Int32 × jT)) (x1 : Int32) (x2 : Int32) (x4 : Int32) (x5 : Int32) (x6 : Int32) (σ : jT) : Option (Int32 × jT) :=
  (f_X11_stopAt x4 (x6 / 6) (x6 - x6 / 6 * 6) σ).bind fun q1 =>
  k192 x1 x2 q1.1 (x5 + 1) q1.2
def f_X11_changes_b201 (k192 : Int32 → Int32 → Int32 → Int32 → jT → Option (Int32 × jT)) : Nat → Int32 → Int32 → Int32 → Int32 → Int32 → jT → Option (Int32 × jT)
  | 0, _, _, _, _, _, _ => none
  | n + 1, x1, x2, x4, x5, x6, σ =>
    (f_X11_ridesBy x4 (x6 / 6) (x6 - x6 / 6 * 6) x1 x2 σ).bind fun q1 =>
    if jx_in x4 10 then
    if q1.1 = (q1.2.2 85 x4.toNatClampNeg) then
      if 5 ≤ x5 then
        f_X11_changes_b259 k192 x1 x2 x4 x5 x6 q1.2
      else
        (f_X11_tell (x6 / 6) q1.2).bind fun q5 =>
        (f_X11_tell (x6 - x6 / 6 * 6) q5.2).bind fun q6 =>
        f_X11_changes_b259 k192 x1 x2 x4 x5 x6 q6.2
    else
      f_X11_changes_b201 k192 n x1 x2 x4 x5 (x6 + 1) q1.2
    else none
def f_X11_changes_b192 : Nat → Int32 → Int32 → Int32 → Int32 → jT → Option (Int32 × jT)
  | 0, _, _, _, _, _ => none
  | n + 1, x1, x2, x4, x5, σ =>
    if x4 = x2 then
      if jx_in x1 10 then
      some ((σ.2 85 x1.toNatClampNeg), σ)
      else none
    else
      f_X11_changes_b201 (f_X11_changes_b192 n) 1000 x1 x2 x4 x5 0 σ
def f_X11_changes_b145 (k96 : Int32 → Int32 → Int32 → Int32 → Int32 → Int32 → jT → Option (Int32 × jT)) (x1 : Int32) (x2 : Int32) (x3 : Int32) (x4 : Int32) (x5 : Int32) (x6 : Int32) (σ : jT) : Option (Int32 × jT) :=
  k96 x1 x2 x3 x4 x5 (x6 + 1) σ
def f_X11_changes_b96 (k84 : Int32 → Int32 → Int32 → Int32 → Int32 → jT → Option (Int32 × jT)) : Nat → Int32 → Int32 → Int32 → Int32 → Int32 → Int32 → jT → Option (Int32 × jT)
  | 0, _, _, _, _, _, _, _ => none
  | n + 1, x1, x2, x3, x4, x5, x6, σ =>
    if (σ.1 4165) ≤ x6 then
      k84 x1 x2 x3 x4 (x5 + 1) σ
    else
      (f_X11_ridesBy x4 x5 x6 x1 x2 σ).bind fun q2 =>
      if jx_in x4 10 then
      if q2.1 < (q2.2.2 85 x4.toNatClampNeg) then
        f_X11_changes_b145 (f_X11_changes_b96 k84 n) x1 x2 1 x4 x5 x6 (gA q2.2 85 x4.toNatClampNeg q2.1)
      else
        f_X11_changes_b145 (f_X11_changes_b96 k84 n) x1 x2 x3 x4 x5 x6 q2.2
      else none
def f_X11_changes_b84 (k72 : Int32 → Int32 → Int32 → Int32 → jT → Option (Int32 × jT)) : Nat → Int32 → Int32 → Int32 → Int32 → Int32 → jT → Option (Int32 × jT)
  | 0, _, _, _, _, _, _ => none
  | n + 1, x1, x2, x3, x4, x5, σ =>
    if (σ.1 4165) ≤ x5 then
      k72 x1 x2 x3 (x4 + 1) σ
    else
      f_X11_changes_b96 (f_X11_changes_b84 k72 n) 1000 x1 x2 x3 x4 x5 0 σ
def f_X11_changes_b72 (k63 : Int32 → Int32 → Int32 → jT → Option (Int32 × jT)) : Nat → Int32 → Int32 → Int32 → Int32 → jT → Option (Int32 × jT)
  | 0, _, _, _, _, _ => none
  | n + 1, x1, x2, x3, x4, σ =>
    if (σ.1 4161) ≤ x4 then
      k63 x1 x2 x3 σ
    else
      f_X11_changes_b84 (f_X11_changes_b72 k63 n) 1000 x1 x2 x3 x4 0 σ
def f_X11_changes_b63 : Nat → Int32 → Int32 → Int32 → jT → Option (Int32 × jT)
  | 0, _, _, _, _ => none
  | n + 1, x1, x2, x3, σ =>
    if x3 = 0 then
      if jx_in x1 10 then
      if ¬ (σ.2 85 x1.toNatClampNeg) = 1000000 then
        f_X11_changes_b192 1000 x1 x2 x1 0 (gs σ 4171 0)
      else
        some ((-2), σ)
      else none
    else
      f_X11_changes_b72 (f_X11_changes_b63 n) 1000 x1 x2 0 0 σ
def f_X11_changes_b54 (k29 : Int32 → Int32 → Int32 → jT → Option (Int32 × jT)) (x1 : Int32) (x2 : Int32) (x3 : Int32) (s0 : Int32) (s1 : Int32) (σ : jT) : Option (Int32 × jT) :=
  if jx_in s1 10 then
  k29 x1 x2 (x3 + 1) (gA σ 85 s1.toNatClampNeg s0)
  else none
def f_X11_changes_b29 : Nat → Int32 → Int32 → Int32 → jT → Option (Int32 × jT)
  | 0, _, _, _, _ => none
  | n + 1, x1, x2, x3, σ =>
    if (σ.1 4161) ≤ x3 then
      f_X11_changes_b63 1000 x1 x2 1 σ
    else
      if ¬ x3 = x2 then
        f_X11_changes_b54 (f_X11_changes_b29 n) x1 x2 x3 1000000 x3 σ
      else
        f_X11_changes_b54 (f_X11_changes_b29 n) x1 x2 x3 0 x3 σ
def f_X11_changes (x1 : Int32) (x2 : Int32) (σ : jT) : Option (Int32 × jT) :=
  (f_X11_isPlace x1 (gs σ 4172 0)).bind fun q1 =>
  if q1.1 = 0 then
    some ((-1), q1.2)
  else
    (f_X11_isPlace x2 q1.2).bind fun q3 =>
    if ¬ q3.1 = 0 then
      (f_X11_layStops q3.2).bind fun q5 =>
      f_X11_changes_b29 1000 x1 x2 0 q5.2
    else
      some ((-1), q3.2)
theorem t_X11_changes_b259 {S : jS} (hS : jMok S) {d : Nat} {Q : Option Value → jx_H → Prop} {k192 : Int32 → Int32 → Int32 → Int32 → jT → Option (Int32 × jT)} (hk192 : ∀ {rd : Value} {x1 : Int32} {x2 : Int32} {x4 : Int32} {x5 : Int32} {w3 : Value} {w6 : Value} {w7 : Value} {σ : jT}, jw (k192 x1 x2 x4 x5 σ) (fun q => ∀ rd : Value, Q (some (.int q.1)) (jh (jSrd S rd) q.2)) → jx_Ex (d + 110) jm_l281 jm_b281_192 [.ref 65, .int x1, .int x2, w3, .int x4, .int x5, w6, w7] [] (jh (jSrd S rd) σ) Q) {rd : Value} {x1 : Int32} {x2 : Int32} {x4 : Int32} {x5 : Int32} {x6 : Int32} {w3 : Value} {w7 : Value} {σ : jT} (h : jw (f_X11_changes_b259 k192 x1 x2 x4 x5 x6 σ) (fun q => ∀ rd : Value, Q (some (.int q.1)) (jh (jSrd S rd) q.2))) : jx_Ex (d + 110) jm_l281 jm_b281_259 [.ref 65, .int x1, .int x2, w3, .int x4, .int x5, .int x6, w7] [] (jh (jSrd S rd) σ) Q := by
  unfold f_X11_changes_b259 at h
  refine xo_2 rfl ?_
  refine xo_1 rfl ?_
  refine xo_1 rfl ?_
  refine xo_9 ?_
  refine xo_17 (by decide) ?_
  refine xo_1 rfl ?_
  refine xo_9 ?_
  refine xo_18 (by decide) ?_
  refine xo_49 (st' := []) rfl rfl (xm_ly (jSrd_ok hS rd) ly65) rfl (Nat.le_of_ble_eq_true rfl) ?_
  refine t_X11_stopAt hS ?_
  refine jw_mono (jw_bind h) (fun q1 h => ?_)
  show jx_Ex _ _ _ _ [.int q1.1] (jh (jSrd S rd) q1.2) _
  refine xo_5 (ls' := [.ref 65, .int x1, .int x2, w3, .int q1.1, .int x5, .int x6, w7]) rfl ?_
  refine xo_13 (ls' := [.ref 65, .int x1, .int x2, w3, .int q1.1, .int (x5 + 1), .int x6, w7]) rfl rfl ?_
  refine xo_54 (t := jm_b281_192) rfl ?_
  exact hk192 h
theorem t_X11_changes_b201 {S : jS} (hS : jMok S) {d : Nat} {Q : Option Value → jx_H → Prop} {k192 : Int32 → Int32 → Int32 → Int32 → jT → Option (Int32 × jT)} (hk192 : ∀ {rd : Value} {x1 : Int32} {x2 : Int32} {x4 : Int32} {x5 : Int32} {w3 : Value} {w6 : Value} {w7 : Value} {σ : jT}, jw (k192 x1 x2 x4 x5 σ) (fun q => ∀ rd : Value, Q (some (.int q.1)) (jh (jSrd S rd) q.2)) → jx_Ex (d + 110) jm_l281 jm_b281_192 [.ref 65, .int x1, .int x2, w3, .int x4, .int x5, w6, w7] [] (jh (jSrd S rd) σ) Q) : ∀ (n : Nat) {rd : Value} {x1 : Int32} {x2 : Int32} {x4 : Int32} {x5 : Int32} {x6 : Int32} {w3 : Value} {w7 : Value} {σ : jT}, jw (f_X11_changes_b201 k192 n x1 x2 x4 x5 x6 σ) (fun q => ∀ rd : Value, Q (some (.int q.1)) (jh (jSrd S rd) q.2)) → jx_Ex (d + 110) jm_l281 jm_b281_201 [.ref 65, .int x1, .int x2, w3, .int x4, .int x5, .int x6, w7] [] (jh (jSrd S rd) σ) Q := by
  intro n
  induction n with
  | zero => intro rd x1 x2 x4 x5 x6 w3 w7 σ h; exact jw_none h
  | succ n ih =>
    intro rd x1 x2 x4 x5 x6 w3 w7 σ h
    rw [f_X11_changes_b201] at h
    refine xo_2 rfl ?_
    refine xo_1 rfl ?_
    refine xo_1 rfl ?_
    refine xo_9 ?_
    refine xo_17 (by decide) ?_
    refine xo_1 rfl ?_
    refine xo_9 ?_
    refine xo_18 (by decide) ?_
    refine xo_0 rfl ?_
    refine xo_0 rfl ?_
    refine xo_49 (st' := []) rfl rfl (xm_ly (jSrd_ok hS rd) ly65) rfl (Nat.le_of_ble_eq_true rfl) ?_
    refine t_X11_ridesBy hS ?_
    refine jw_mono (jw_bind h) (fun q1 h => ?_)
    show jx_Ex _ _ _ _ [.int q1.1] (jh (jSrd S rd) q1.2) _
    refine xo_2 rfl ?_
    refine xm_33 (i := 4198) (q := 85) (jSrd_ok hS rd) ly65 rfl (xm_P (jSrd_ok hS rd) (by decide)) ?_
    refine xo_1 rfl ?_
    obtain ⟨hi2, h⟩ := jw_chk h
    refine xm_38 (j := x4.toNatClampNeg) (v := (q1.2.2 85 x4.toNatClampNeg)) (jSrd_ok hS rd) ly85 ⟨Nat.le_of_ble_eq_true rfl, Nat.le_of_ble_eq_true rfl⟩ hi2 rfl rfl ?_
    refine xo_61 (t := jm_b281_235) rfl (fun hc3 => ?_) (fun hc3 => ?_)
    · replace h := jw_pos hc3 h
      refine xo_1 rfl ?_
      refine xo_8 ?_
      refine xo_64 (t := jm_b281_259) rfl (fun hc4 => ?_) (fun hc4 => ?_)
      · replace h := jw_pos hc4 h
        exact t_X11_changes_b259 hS hk192 h
      · replace h := jw_neg hc4 h
        refine xo_2 rfl ?_
        refine xo_1 rfl ?_
        refine xo_9 ?_
        refine xo_17 (by decide) ?_
        refine xo_49 (st' := []) rfl rfl (xm_ly (jSrd_ok hS rd) ly65) rfl (Nat.le_of_ble_eq_true rfl) ?_
        refine t_X11_tell hS ?_
        refine jw_mono (jw_bind h) (fun q5 h => ?_)
        show jx_Ex _ _ _ _ [] (jh (jSrd S rd) q5.2) _
        refine xo_2 rfl ?_
        refine xo_1 rfl ?_
        refine xo_9 ?_
        refine xo_18 (by decide) ?_
        refine xo_49 (st' := []) rfl rfl (xm_ly (jSrd_ok hS rd) ly65) rfl (Nat.le_of_ble_eq_true rfl) ?_
        refine t_X11_tell hS ?_
        refine jw_mono (jw_bind h) (fun q6 h => ?_)
        show jx_Ex _ _ _ _ [] (jh (jSrd S rd) q6.2) _
        exact t_X11_changes_b259 hS hk192 h
    · replace h := jw_neg hc3 h
      refine xo_13 (ls' := [.ref 65, .int x1, .int x2, w3, .int x4, .int x5, .int (x6 + 1), w7]) rfl rfl ?_
      refine xo_54 (t := jm_b281_201) rfl ?_
      exact ih h
theorem t_X11_changes_b192 {S : jS} (hS : jMok S) {d : Nat} {Q : Option Value → jx_H → Prop} : ∀ (n : Nat) {rd : Value} {x1 : Int32} {x2 : Int32} {x4 : Int32} {x5 : Int32} {w3 : Value} {w6 : Value} {w7 : Value} {σ : jT}, jw (f_X11_changes_b192 n x1 x2 x4 x5 σ) (fun q => ∀ rd : Value, Q (some (.int q.1)) (jh (jSrd S rd) q.2)) → jx_Ex (d + 110) jm_l281 jm_b281_192 [.ref 65, .int x1, .int x2, w3, .int x4, .int x5, w6, w7] [] (jh (jSrd S rd) σ) Q := by
  intro n
  induction n with
  | zero => intro rd x1 x2 x4 x5 w3 w6 w7 σ h; exact jw_none h
  | succ n ih =>
    intro rd x1 x2 x4 x5 w3 w6 w7 σ h
    rw [f_X11_changes_b192] at h
    refine xo_1 rfl ?_
    refine xo_0 rfl ?_
    refine xo_61 (t := jm_b281_283) rfl (fun hc1 => ?_) (fun hc1 => ?_)
    · replace h := jw_pos hc1 h
      refine xo_2 rfl ?_
      refine xm_33 (i := 4198) (q := 85) (jSrd_ok hS rd) ly65 rfl (xm_P (jSrd_ok hS rd) (by decide)) ?_
      refine xo_0 rfl ?_
      obtain ⟨hi2, h⟩ := jw_chk h
      refine xm_38 (j := x1.toNatClampNeg) (v := (σ.2 85 x1.toNatClampNeg)) (jSrd_ok hS rd) ly85 ⟨Nat.le_of_ble_eq_true rfl, Nat.le_of_ble_eq_true rfl⟩ hi2 rfl rfl ?_
      replace h := jw_some h
      exact xo_69 (h rd)
    · replace h := jw_neg hc1 h
      refine xo_8 ?_
      refine xo_5 (ls' := [.ref 65, .int x1, .int x2, w3, .int x4, .int x5, .int 0, w7]) rfl ?_
      exact t_X11_changes_b201 hS ih 1000 h
theorem t_X11_changes_b145 {S : jS} (hS : jMok S) {d : Nat} {Q : Option Value → jx_H → Prop} {k96 : Int32 → Int32 → Int32 → Int32 → Int32 → Int32 → jT → Option (Int32 × jT)} (hk96 : ∀ {rd : Value} {x1 : Int32} {x2 : Int32} {x3 : Int32} {x4 : Int32} {x5 : Int32} {x6 : Int32} {w7 : Value} {σ : jT}, jw (k96 x1 x2 x3 x4 x5 x6 σ) (fun q => ∀ rd : Value, Q (some (.int q.1)) (jh (jSrd S rd) q.2)) → jx_Ex (d + 110) jm_l281 jm_b281_96 [.ref 65, .int x1, .int x2, .int x3, .int x4, .int x5, .int x6, w7] [] (jh (jSrd S rd) σ) Q) {rd : Value} {x1 : Int32} {x2 : Int32} {x3 : Int32} {x4 : Int32} {x5 : Int32} {x6 : Int32} {w7 : Value} {σ : jT} (h : jw (f_X11_changes_b145 k96 x1 x2 x3 x4 x5 x6 σ) (fun q => ∀ rd : Value, Q (some (.int q.1)) (jh (jSrd S rd) q.2))) : jx_Ex (d + 110) jm_l281 jm_b281_145 [.ref 65, .int x1, .int x2, .int x3, .int x4, .int x5, .int x6, w7] [] (jh (jSrd S rd) σ) Q := by
  unfold f_X11_changes_b145 at h
  refine xo_13 (ls' := [.ref 65, .int x1, .int x2, .int x3, .int x4, .int x5, .int (x6 + 1), w7]) rfl rfl ?_
  refine xo_54 (t := jm_b281_96) rfl ?_
  exact hk96 h
theorem t_X11_changes_b96 {S : jS} (hS : jMok S) {d : Nat} {Q : Option Value → jx_H → Prop} {k84 : Int32 → Int32 → Int32 → Int32 → Int32 → jT → Option (Int32 × jT)} (hk84 : ∀ {rd : Value} {x1 : Int32} {x2 : Int32} {x3 : Int32} {x4 : Int32} {x5 : Int32} {w6 : Value} {w7 : Value} {σ : jT}, jw (k84 x1 x2 x3 x4 x5 σ) (fun q => ∀ rd : Value, Q (some (.int q.1)) (jh (jSrd S rd) q.2)) → jx_Ex (d + 110) jm_l281 jm_b281_84 [.ref 65, .int x1, .int x2, .int x3, .int x4, .int x5, w6, w7] [] (jh (jSrd S rd) σ) Q) : ∀ (n : Nat) {rd : Value} {x1 : Int32} {x2 : Int32} {x3 : Int32} {x4 : Int32} {x5 : Int32} {x6 : Int32} {w7 : Value} {σ : jT}, jw (f_X11_changes_b96 k84 n x1 x2 x3 x4 x5 x6 σ) (fun q => ∀ rd : Value, Q (some (.int q.1)) (jh (jSrd S rd) q.2)) → jx_Ex (d + 110) jm_l281 jm_b281_96 [.ref 65, .int x1, .int x2, .int x3, .int x4, .int x5, .int x6, w7] [] (jh (jSrd S rd) σ) Q := by
  intro n
  induction n with
  | zero => intro rd x1 x2 x3 x4 x5 x6 w7 σ h; exact jw_none h
  | succ n ih =>
    intro rd x1 x2 x3 x4 x5 x6 w7 σ h
    rw [f_X11_changes_b96] at h
    refine xo_1 rfl ?_
    refine xo_2 rfl ?_
    refine xm_32 (i := 4165) (v := (σ.1 4165)) (jSrd_ok hS rd) ly65 rfl ⟨Nat.le_of_ble_eq_true rfl, Nat.le_of_ble_eq_true rfl⟩ rfl ?_
    refine xo_64 (t := jm_b281_151) rfl (fun hc1 => ?_) (fun hc1 => ?_)
    · replace h := jw_pos hc1 h
      refine xo_13 (ls' := [.ref 65, .int x1, .int x2, .int x3, .int x4, .int (x5 + 1), .int x6, w7]) rfl rfl ?_
      refine xo_54 (t := jm_b281_84) rfl ?_
      exact hk84 h
    · replace h := jw_neg hc1 h
      refine xo_2 rfl ?_
      refine xo_1 rfl ?_
      refine xo_1 rfl ?_
      refine xo_1 rfl ?_
      refine xo_0 rfl ?_
      refine xo_0 rfl ?_
      refine xo_49 (st' := []) rfl rfl (xm_ly (jSrd_ok hS rd) ly65) rfl (Nat.le_of_ble_eq_true rfl) ?_
      refine t_X11_ridesBy hS ?_
      refine jw_mono (jw_bind h) (fun q2 h => ?_)
      show jx_Ex _ _ _ _ [.int q2.1] (jh (jSrd S rd) q2.2) _
      refine xo_5 (ls' := [.ref 65, .int x1, .int x2, .int x3, .int x4, .int x5, .int x6, .int q2.1]) rfl ?_
      refine xo_1 rfl ?_
      refine xo_2 rfl ?_
      refine xm_33 (i := 4198) (q := 85) (jSrd_ok hS rd) ly65 rfl (xm_P (jSrd_ok hS rd) (by decide)) ?_
      refine xo_1 rfl ?_
      obtain ⟨hi3, h⟩ := jw_chk h
      refine xm_38 (j := x4.toNatClampNeg) (v := (q2.2.2 85 x4.toNatClampNeg)) (jSrd_ok hS rd) ly85 ⟨Nat.le_of_ble_eq_true rfl, Nat.le_of_ble_eq_true rfl⟩ hi3 rfl rfl ?_
      refine xo_63 (t := jm_b281_134) rfl (fun hc4 => ?_) (fun hc4 => ?_)
      · replace h := jw_pos hc4 h
        refine xo_2 rfl ?_
        refine xm_33 (i := 4198) (q := 85) (jSrd_ok hS rd) ly65 rfl (xm_P (jSrd_ok hS rd) (by decide)) ?_
        refine xo_1 rfl ?_
        refine xo_1 rfl ?_
        refine xm_41 (j := x4.toNatClampNeg) (jSrd_ok hS rd) ly85 ⟨Nat.le_of_ble_eq_true rfl, Nat.le_of_ble_eq_true rfl⟩ hi3 rfl ?_
        refine xo_8 ?_
        refine xo_4 (ls' := [.ref 65, .int x1, .int x2, .int 1, .int x4, .int x5, .int x6, .int q2.1]) rfl ?_
        exact t_X11_changes_b145 hS ih h
      · replace h := jw_neg hc4 h
        refine xo_54 (t := jm_b281_145) rfl ?_
        exact t_X11_changes_b145 hS ih h
theorem t_X11_changes_b84 {S : jS} (hS : jMok S) {d : Nat} {Q : Option Value → jx_H → Prop} {k72 : Int32 → Int32 → Int32 → Int32 → jT → Option (Int32 × jT)} (hk72 : ∀ {rd : Value} {x1 : Int32} {x2 : Int32} {x3 : Int32} {x4 : Int32} {w5 : Value} {w6 : Value} {w7 : Value} {σ : jT}, jw (k72 x1 x2 x3 x4 σ) (fun q => ∀ rd : Value, Q (some (.int q.1)) (jh (jSrd S rd) q.2)) → jx_Ex (d + 110) jm_l281 jm_b281_72 [.ref 65, .int x1, .int x2, .int x3, .int x4, w5, w6, w7] [] (jh (jSrd S rd) σ) Q) : ∀ (n : Nat) {rd : Value} {x1 : Int32} {x2 : Int32} {x3 : Int32} {x4 : Int32} {x5 : Int32} {w6 : Value} {w7 : Value} {σ : jT}, jw (f_X11_changes_b84 k72 n x1 x2 x3 x4 x5 σ) (fun q => ∀ rd : Value, Q (some (.int q.1)) (jh (jSrd S rd) q.2)) → jx_Ex (d + 110) jm_l281 jm_b281_84 [.ref 65, .int x1, .int x2, .int x3, .int x4, .int x5, w6, w7] [] (jh (jSrd S rd) σ) Q := by
  intro n
  induction n with
  | zero => intro rd x1 x2 x3 x4 x5 w6 w7 σ h; exact jw_none h
  | succ n ih =>
    intro rd x1 x2 x3 x4 x5 w6 w7 σ h
    rw [f_X11_changes_b84] at h
    refine xo_1 rfl ?_
    refine xo_2 rfl ?_
    refine xm_32 (i := 4165) (v := (σ.1 4165)) (jSrd_ok hS rd) ly65 rfl ⟨Nat.le_of_ble_eq_true rfl, Nat.le_of_ble_eq_true rfl⟩ rfl ?_
    refine xo_64 (t := jm_b281_157) rfl (fun hc1 => ?_) (fun hc1 => ?_)
    · replace h := jw_pos hc1 h
      refine xo_13 (ls' := [.ref 65, .int x1, .int x2, .int x3, .int (x4 + 1), .int x5, w6, w7]) rfl rfl ?_
      refine xo_54 (t := jm_b281_72) rfl ?_
      exact hk72 h
    · replace h := jw_neg hc1 h
      refine xo_8 ?_
      refine xo_5 (ls' := [.ref 65, .int x1, .int x2, .int x3, .int x4, .int x5, .int 0, w7]) rfl ?_
      exact t_X11_changes_b96 hS ih 1000 h
theorem t_X11_changes_b72 {S : jS} (hS : jMok S) {d : Nat} {Q : Option Value → jx_H → Prop} {k63 : Int32 → Int32 → Int32 → jT → Option (Int32 × jT)} (hk63 : ∀ {rd : Value} {x1 : Int32} {x2 : Int32} {x3 : Int32} {w4 : Value} {w5 : Value} {w6 : Value} {w7 : Value} {σ : jT}, jw (k63 x1 x2 x3 σ) (fun q => ∀ rd : Value, Q (some (.int q.1)) (jh (jSrd S rd) q.2)) → jx_Ex (d + 110) jm_l281 jm_b281_63 [.ref 65, .int x1, .int x2, .int x3, w4, w5, w6, w7] [] (jh (jSrd S rd) σ) Q) : ∀ (n : Nat) {rd : Value} {x1 : Int32} {x2 : Int32} {x3 : Int32} {x4 : Int32} {w5 : Value} {w6 : Value} {w7 : Value} {σ : jT}, jw (f_X11_changes_b72 k63 n x1 x2 x3 x4 σ) (fun q => ∀ rd : Value, Q (some (.int q.1)) (jh (jSrd S rd) q.2)) → jx_Ex (d + 110) jm_l281 jm_b281_72 [.ref 65, .int x1, .int x2, .int x3, .int x4, w5, w6, w7] [] (jh (jSrd S rd) σ) Q := by
  intro n
  induction n with
  | zero => intro rd x1 x2 x3 x4 w5 w6 w7 σ h; exact jw_none h
  | succ n ih =>
    intro rd x1 x2 x3 x4 w5 w6 w7 σ h
    rw [f_X11_changes_b72] at h
    refine xo_1 rfl ?_
    refine xo_2 rfl ?_
    refine xm_32 (i := 4161) (v := (σ.1 4161)) (jSrd_ok hS rd) ly65 rfl ⟨Nat.le_of_ble_eq_true rfl, Nat.le_of_ble_eq_true rfl⟩ rfl ?_
    refine xo_64 (t := jm_b281_163) rfl (fun hc1 => ?_) (fun hc1 => ?_)
    · replace h := jw_pos hc1 h
      refine xo_54 (t := jm_b281_63) rfl ?_
      exact hk63 h
    · replace h := jw_neg hc1 h
      refine xo_8 ?_
      refine xo_5 (ls' := [.ref 65, .int x1, .int x2, .int x3, .int x4, .int 0, w6, w7]) rfl ?_
      exact t_X11_changes_b84 hS ih 1000 h
theorem t_X11_changes_b63 {S : jS} (hS : jMok S) {d : Nat} {Q : Option Value → jx_H → Prop} : ∀ (n : Nat) {rd : Value} {x1 : Int32} {x2 : Int32} {x3 : Int32} {w4 : Value} {w5 : Value} {w6 : Value} {w7 : Value} {σ : jT}, jw (f_X11_changes_b63 n x1 x2 x3 σ) (fun q => ∀ rd : Value, Q (some (.int q.1)) (jh (jSrd S rd) q.2)) → jx_Ex (d + 110) jm_l281 jm_b281_63 [.ref 65, .int x1, .int x2, .int x3, w4, w5, w6, w7] [] (jh (jSrd S rd) σ) Q := by
  intro n
  induction n with
  | zero => intro rd x1 x2 x3 w4 w5 w6 w7 σ h; exact jw_none h
  | succ n ih =>
    intro rd x1 x2 x3 w4 w5 w6 w7 σ h
    rw [f_X11_changes_b63] at h
    refine xo_0 rfl ?_
    refine xo_55 (t := jm_b281_166) rfl (fun hc1 => ?_) (fun hc1 => ?_)
    · replace h := jw_pos hc1 h
      refine xo_2 rfl ?_
      refine xm_33 (i := 4198) (q := 85) (jSrd_ok hS rd) ly65 rfl (xm_P (jSrd_ok hS rd) (by decide)) ?_
      refine xo_0 rfl ?_
      obtain ⟨hi2, h⟩ := jw_chk h
      refine xm_38 (j := x1.toNatClampNeg) (v := (σ.2 85 x1.toNatClampNeg)) (jSrd_ok hS rd) ly85 ⟨Nat.le_of_ble_eq_true rfl, Nat.le_of_ble_eq_true rfl⟩ hi2 rfl rfl ?_
      refine xo_12 ?_
      refine xo_62 (t := jm_b281_181) rfl (fun hc3 => ?_) (fun hc3 => ?_)
      · replace h := jw_pos hc3 h
        refine xo_2 rfl ?_
        refine xo_8 ?_
        refine xm_34 (i := 4171) (jSrd_ok hS rd) ly65 rfl ⟨Nat.le_of_ble_eq_true rfl, Nat.le_of_ble_eq_true rfl⟩ ?_
        refine xo_0 rfl ?_
        refine xo_5 (ls' := [.ref 65, .int x1, .int x2, .int x3, .int x1, w5, w6, w7]) rfl ?_
        refine xo_8 ?_
        refine xo_5 (ls' := [.ref 65, .int x1, .int x2, .int x3, .int x1, .int 0, w6, w7]) rfl ?_
        exact t_X11_changes_b192 hS 1000 h
      · replace h := jw_neg hc3 h
        refine xo_9 ?_
        replace h := jw_some h
        exact xo_69 (h rd)
    · replace h := jw_neg hc1 h
      refine xo_8 ?_
      refine xo_4 (ls' := [.ref 65, .int x1, .int x2, .int 0, w4, w5, w6, w7]) rfl ?_
      refine xo_8 ?_
      refine xo_5 (ls' := [.ref 65, .int x1, .int x2, .int 0, .int 0, w5, w6, w7]) rfl ?_
      exact t_X11_changes_b72 hS ih 1000 h
theorem t_X11_changes_b54 {S : jS} (hS : jMok S) {d : Nat} {Q : Option Value → jx_H → Prop} {k29 : Int32 → Int32 → Int32 → jT → Option (Int32 × jT)} (hk29 : ∀ {rd : Value} {x1 : Int32} {x2 : Int32} {x3 : Int32} {w4 : Value} {w5 : Value} {w6 : Value} {w7 : Value} {σ : jT}, jw (k29 x1 x2 x3 σ) (fun q => ∀ rd : Value, Q (some (.int q.1)) (jh (jSrd S rd) q.2)) → jx_Ex (d + 110) jm_l281 jm_b281_29 [.ref 65, .int x1, .int x2, .int x3, w4, w5, w6, w7] [] (jh (jSrd S rd) σ) Q) {rd : Value} {x1 : Int32} {x2 : Int32} {x3 : Int32} {s0 : Int32} {s1 : Int32} {w4 : Value} {w5 : Value} {w6 : Value} {w7 : Value} {σ : jT} (h : jw (f_X11_changes_b54 k29 x1 x2 x3 s0 s1 σ) (fun q => ∀ rd : Value, Q (some (.int q.1)) (jh (jSrd S rd) q.2))) : jx_Ex (d + 110) jm_l281 jm_b281_54 [.ref 65, .int x1, .int x2, .int x3, w4, w5, w6, w7] [.int s0, .int s1, .ref 85] (jh (jSrd S rd) σ) Q := by
  unfold f_X11_changes_b54 at h
  obtain ⟨hi1, h⟩ := jw_chk h
  refine xm_41 (j := s1.toNatClampNeg) (jSrd_ok hS rd) ly85 ⟨Nat.le_of_ble_eq_true rfl, Nat.le_of_ble_eq_true rfl⟩ hi1 rfl ?_
  refine xo_13 (ls' := [.ref 65, .int x1, .int x2, .int (x3 + 1), w4, w5, w6, w7]) rfl rfl ?_
  refine xo_54 (t := jm_b281_29) rfl ?_
  exact hk29 h
theorem t_X11_changes_b29 {S : jS} (hS : jMok S) {d : Nat} {Q : Option Value → jx_H → Prop} : ∀ (n : Nat) {rd : Value} {x1 : Int32} {x2 : Int32} {x3 : Int32} {w4 : Value} {w5 : Value} {w6 : Value} {w7 : Value} {σ : jT}, jw (f_X11_changes_b29 n x1 x2 x3 σ) (fun q => ∀ rd : Value, Q (some (.int q.1)) (jh (jSrd S rd) q.2)) → jx_Ex (d + 110) jm_l281 jm_b281_29 [.ref 65, .int x1, .int x2, .int x3, w4, w5, w6, w7] [] (jh (jSrd S rd) σ) Q := by
  intro n
  induction n with
  | zero => intro rd x1 x2 x3 w4 w5 w6 w7 σ h; exact jw_none h
  | succ n ih =>
    intro rd x1 x2 x3 w4 w5 w6 w7 σ h
    rw [f_X11_changes_b29] at h
    refine xo_0 rfl ?_
    refine xo_2 rfl ?_
    refine xm_32 (i := 4161) (v := (σ.1 4161)) (jSrd_ok hS rd) ly65 rfl ⟨Nat.le_of_ble_eq_true rfl, Nat.le_of_ble_eq_true rfl⟩ rfl ?_
    refine xo_64 (t := jm_b281_61) rfl (fun hc1 => ?_) (fun hc1 => ?_)
    · replace h := jw_pos hc1 h
      refine xo_8 ?_
      refine xo_4 (ls' := [.ref 65, .int x1, .int x2, .int 1, w4, w5, w6, w7]) rfl ?_
      exact t_X11_changes_b63 hS 1000 h
    · replace h := jw_neg hc1 h
      refine xo_2 rfl ?_
      refine xm_33 (i := 4198) (q := 85) (jSrd_ok hS rd) ly65 rfl (xm_P (jSrd_ok hS rd) (by decide)) ?_
      refine xo_0 rfl ?_
      refine xo_0 rfl ?_
      refine xo_0 rfl ?_
      refine xo_62 (t := jm_b281_51) rfl (fun hc2 => ?_) (fun hc2 => ?_)
      · replace h := jw_pos hc2 h
        refine xo_12 ?_
        exact t_X11_changes_b54 hS ih h
      · replace h := jw_neg hc2 h
        refine xo_8 ?_
        refine xo_54 (t := jm_b281_54) rfl ?_
        exact t_X11_changes_b54 hS ih h
theorem t_X11_changes {S : jS} (hS : jMok S) {d : Nat} {Q : Option Value → jx_H → Prop} {rd : Value} {x1 : Int32} {x2 : Int32} {σ : jT} (h : jw (f_X11_changes x1 x2 σ) (fun q => ∀ rd : Value, Q (some (.int q.1)) (jh (jSrd S rd) q.2))) : jx_Sp (d + 110) 281 [.ref 65, .int x1, .int x2] (jh (jSrd S rd) σ) Q := by
  refine ⟨jm_i281, jm_at281, rfl, rfl, ?_⟩
  show jx_Ex _ jm_l281 jm_b281_0 [.ref 65, .int x1, .int x2, .retAddr 0, .retAddr 0, .retAddr 0, .retAddr 0, .retAddr 0] [] _ _
  unfold f_X11_changes at h
  refine xo_2 rfl ?_
  refine xo_8 ?_
  refine xm_34 (i := 4172) (jSrd_ok hS rd) ly65 rfl ⟨Nat.le_of_ble_eq_true rfl, Nat.le_of_ble_eq_true rfl⟩ ?_
  refine xo_2 rfl ?_
  refine xo_0 rfl ?_
  refine xo_49 (st' := []) rfl rfl (xm_ly (jSrd_ok hS rd) ly65) rfl (Nat.le_of_ble_eq_true rfl) ?_
  refine t_X11_isPlace hS ?_
  refine jw_mono (jw_bind h) (fun q1 h => ?_)
  show jx_Ex _ _ _ _ [.int q1.1] (jh (jSrd S rd) q1.2) _
  refine xo_55 (t := jm_b281_21) rfl (fun hc2 => ?_) (fun hc2 => ?_)
  · replace h := jw_pos hc2 h
    refine xo_8 ?_
    replace h := jw_some h
    exact xo_69 (h rd)
  · replace h := jw_neg hc2 h
    refine xo_2 rfl ?_
    refine xo_0 rfl ?_
    refine xo_49 (st' := []) rfl rfl (xm_ly (jSrd_ok hS rd) ly65) rfl (Nat.le_of_ble_eq_true rfl) ?_
    refine t_X11_isPlace hS ?_
    refine jw_mono (jw_bind h) (fun q3 h => ?_)
    show jx_Ex _ _ _ _ [.int q3.1] (jh (jSrd S rd) q3.2) _
    refine xo_56 (t := jm_b281_23) rfl (fun hc4 => ?_) (fun hc4 => ?_)
    · replace h := jw_pos hc4 h
      refine xo_2 rfl ?_
      refine xo_49 (st' := []) rfl rfl (xm_ly (jSrd_ok hS rd) ly65) rfl (Nat.le_of_ble_eq_true rfl) ?_
      refine t_X11_layStops hS ?_
      refine jw_mono (jw_bind h) (fun q5 h rd6 => ?_)
      show jx_Ex _ _ _ _ [] (jh (jSrd S rd6) q5.2) _
      refine xo_8 ?_
      refine xo_4 (ls' := [.ref 65, .int x1, .int x2, .int 0, .retAddr 0, .retAddr 0, .retAddr 0, .retAddr 0]) rfl ?_
      exact t_X11_changes_b29 hS 1000 h
    · replace h := jw_neg hc4 h
      refine xo_8 ?_
      replace h := jw_some h
      exact xo_69 (h rd)
/-- OfDifferentMindsModel.stations, at ['m', 'int'] U -/
def f_X11_stations_b155 (k28 : Int32 → Int32 → Int32 → jT → Option (Int32 × jT)) (x2 : Int32) (x3 : Int32) (s0 : Int32) (σ : jT) : Option (Int32 × jT) :=
  k28 x2 x3 s0 σ
def f_X11_stations_b129 (k39 : Int32 → Int32 → Int32 → Int32 → jT → Option (Int32 × jT)) (x2 : Int32) (x3 : Int32) (x5 : Int32) (x6 : Int32) (σ : jT) : Option (Int32 × jT) :=
  k39 x2 x3 x5 (x6 + 1) σ
def f_X11_stations_b115 (k75 : Int32 → Int32 → Int32 → Int32 → Int32 → Int32 → jT → Option (Int32 × jT)) (x2 : Int32) (x5 : Int32) (x6 : Int32) (x7 : Int32) (x8 : Int32) (s0 : Int32) (s1 : Int32) (σ : jT) : Option (Int32 × jT) :=
  k75 x2 (s1 ||| s0) x5 x6 x7 (x8 + 1) σ
def f_X11_stations_b75 (k63 : Int32 → Int32 → Int32 → Int32 → Int32 → jT → Option (Int32 × jT)) : Nat → Int32 → Int32 → Int32 → Int32 → Int32 → Int32 → jT → Option (Int32 × jT)
  | 0, _, _, _, _, _, _, _ => none
  | n + 1, x2, x3, x5, x6, x7, x8, σ =>
    if (σ.1 4165) ≤ x8 then
      k63 x2 x3 x5 x6 (x7 + 1) σ
    else
      (f_X11_stopAt x6 x7 x8 σ).bind fun q2 =>
      if ¬ q2.1 = (-1) then
        (f_X11_stopAt x6 x7 x8 q2.2).bind fun q4 =>
        f_X11_stations_b115 (f_X11_stations_b75 k63 n) x2 x5 x6 x7 x8 (1 <<< (q4.1 &&& 31)) x3 q4.2
      else
        f_X11_stations_b115 (f_X11_stations_b75 k63 n) x2 x5 x6 x7 x8 0 x3 q2.2
def f_X11_stations_b63 (k39 : Int32 → Int32 → Int32 → Int32 → jT → Option (Int32 × jT)) : Nat → Int32 → Int32 → Int32 → Int32 → Int32 → jT → Option (Int32 × jT)
  | 0, _, _, _, _, _, _ => none
  | n + 1, x2, x3, x5, x6, x7, σ =>
    if (σ.1 4165) ≤ x7 then
      f_X11_stations_b129 k39 x2 x3 x5 x6 σ
    else
      f_X11_stations_b75 (f_X11_stations_b63 k39 n) 1000 x2 x3 x5 x6 x7 0 σ
def f_X11_stations_b39 (k28 : Int32 → Int32 → Int32 → jT → Option (Int32 × jT)) : Nat → Int32 → Int32 → Int32 → Int32 → jT → Option (Int32 × jT)
  | 0, _, _, _, _, _ => none
  | n + 1, x2, x3, x5, x6, σ =>
    if (σ.1 4161) ≤ x6 then
      if x3 = x5 then
        f_X11_stations_b155 k28 (x2 ||| (x3 &&& (σ.1 4164))) x3 0 σ
      else
        f_X11_stations_b155 k28 (x2 ||| (x3 &&& (σ.1 4164))) x3 1 σ
    else
      (f_X11_has x2 x6 σ).bind fun q3 =>
      if ¬ q3.1 = 0 then
        f_X11_stations_b63 (f_X11_stations_b39 k28 n) 1000 x2 x3 x5 x6 0 q3.2
      else
        f_X11_stations_b129 (f_X11_stations_b39 k28 n) x2 x3 x5 x6 q3.2
def f_X11_stations_b28 : Nat → Int32 → Int32 → Int32 → jT → Option (Int32 × jT)
  | 0, _, _, _, _ => none
  | n + 1, x2, x3, x4, σ =>
    if x4 = 0 then
      (f_X11_tell (x3 &&& ((σ.1 4164) ^^^ (-1))) (gs σ 4171 0)).bind fun q2 =>
      some (x3, q2.2)
    else
      f_X11_stations_b39 (f_X11_stations_b28 n) 1000 x2 x3 x3 0 σ
def f_X11_stations (x1 : Int32) (σ : jT) : Option (Int32 × jT) :=
  (f_X11_isPlace x1 (gs σ 4172 0)).bind fun q1 =>
  if ¬ q1.1 = 0 then
    (f_X11_layStops q1.2).bind fun q3 =>
    f_X11_stations_b28 1000 (1 <<< (x1 &&& 31)) 0 1 q3.2
  else
    some ((-1), q1.2)
theorem t_X11_stations_b155 {S : jS} (hS : jMok S) {d : Nat} {Q : Option Value → jx_H → Prop} {k28 : Int32 → Int32 → Int32 → jT → Option (Int32 × jT)} (hk28 : ∀ {rd : Value} {x2 : Int32} {x3 : Int32} {x4 : Int32} {w1 : Value} {w5 : Value} {w6 : Value} {w7 : Value} {w8 : Value} {σ : jT}, jw (k28 x2 x3 x4 σ) (fun q => ∀ rd : Value, Q (some (.int q.1)) (jh (jSrd S rd) q.2)) → jx_Ex (d + 110) jm_l282 jm_b282_28 [.ref 65, w1, .int x2, .int x3, .int x4, w5, w6, w7, w8] [] (jh (jSrd S rd) σ) Q) {rd : Value} {x2 : Int32} {x3 : Int32} {s0 : Int32} {w1 : Value} {w4 : Value} {w5 : Value} {w6 : Value} {w7 : Value} {w8 : Value} {σ : jT} (h : jw (f_X11_stations_b155 k28 x2 x3 s0 σ) (fun q => ∀ rd : Value, Q (some (.int q.1)) (jh (jSrd S rd) q.2))) : jx_Ex (d + 110) jm_l282 jm_b282_155 [.ref 65, w1, .int x2, .int x3, w4, w5, w6, w7, w8] [.int s0] (jh (jSrd S rd) σ) Q := by
  unfold f_X11_stations_b155 at h
  refine xo_5 (ls' := [.ref 65, w1, .int x2, .int x3, .int s0, w5, w6, w7, w8]) rfl ?_
  refine xo_54 (t := jm_b282_28) rfl ?_
  exact hk28 h
theorem t_X11_stations_b129 {S : jS} (hS : jMok S) {d : Nat} {Q : Option Value → jx_H → Prop} {k39 : Int32 → Int32 → Int32 → Int32 → jT → Option (Int32 × jT)} (hk39 : ∀ {rd : Value} {x2 : Int32} {x3 : Int32} {x5 : Int32} {x6 : Int32} {w1 : Value} {w4 : Value} {w7 : Value} {w8 : Value} {σ : jT}, jw (k39 x2 x3 x5 x6 σ) (fun q => ∀ rd : Value, Q (some (.int q.1)) (jh (jSrd S rd) q.2)) → jx_Ex (d + 110) jm_l282 jm_b282_39 [.ref 65, w1, .int x2, .int x3, w4, .int x5, .int x6, w7, w8] [] (jh (jSrd S rd) σ) Q) {rd : Value} {x2 : Int32} {x3 : Int32} {x5 : Int32} {x6 : Int32} {w1 : Value} {w4 : Value} {w7 : Value} {w8 : Value} {σ : jT} (h : jw (f_X11_stations_b129 k39 x2 x3 x5 x6 σ) (fun q => ∀ rd : Value, Q (some (.int q.1)) (jh (jSrd S rd) q.2))) : jx_Ex (d + 110) jm_l282 jm_b282_129 [.ref 65, w1, .int x2, .int x3, w4, .int x5, .int x6, w7, w8] [] (jh (jSrd S rd) σ) Q := by
  unfold f_X11_stations_b129 at h
  refine xo_13 (ls' := [.ref 65, w1, .int x2, .int x3, w4, .int x5, .int (x6 + 1), w7, w8]) rfl rfl ?_
  refine xo_54 (t := jm_b282_39) rfl ?_
  exact hk39 h
theorem t_X11_stations_b115 {S : jS} (hS : jMok S) {d : Nat} {Q : Option Value → jx_H → Prop} {k75 : Int32 → Int32 → Int32 → Int32 → Int32 → Int32 → jT → Option (Int32 × jT)} (hk75 : ∀ {rd : Value} {x2 : Int32} {x3 : Int32} {x5 : Int32} {x6 : Int32} {x7 : Int32} {x8 : Int32} {w1 : Value} {w4 : Value} {σ : jT}, jw (k75 x2 x3 x5 x6 x7 x8 σ) (fun q => ∀ rd : Value, Q (some (.int q.1)) (jh (jSrd S rd) q.2)) → jx_Ex (d + 110) jm_l282 jm_b282_75 [.ref 65, w1, .int x2, .int x3, w4, .int x5, .int x6, .int x7, .int x8] [] (jh (jSrd S rd) σ) Q) {rd : Value} {x2 : Int32} {x5 : Int32} {x6 : Int32} {x7 : Int32} {x8 : Int32} {s0 : Int32} {s1 : Int32} {w1 : Value} {w3 : Value} {w4 : Value} {σ : jT} (h : jw (f_X11_stations_b115 k75 x2 x5 x6 x7 x8 s0 s1 σ) (fun q => ∀ rd : Value, Q (some (.int q.1)) (jh (jSrd S rd) q.2))) : jx_Ex (d + 110) jm_l282 jm_b282_115 [.ref 65, w1, .int x2, w3, w4, .int x5, .int x6, .int x7, .int x8] [.int s0, .int s1] (jh (jSrd S rd) σ) Q := by
  unfold f_X11_stations_b115 at h
  refine xo_21 ?_
  refine xo_4 (ls' := [.ref 65, w1, .int x2, .int (s1 ||| s0), w4, .int x5, .int x6, .int x7, .int x8]) rfl ?_
  refine xo_13 (ls' := [.ref 65, w1, .int x2, .int (s1 ||| s0), w4, .int x5, .int x6, .int x7, .int (x8 + 1)]) rfl rfl ?_
  refine xo_54 (t := jm_b282_75) rfl ?_
  exact hk75 h
theorem t_X11_stations_b75 {S : jS} (hS : jMok S) {d : Nat} {Q : Option Value → jx_H → Prop} {k63 : Int32 → Int32 → Int32 → Int32 → Int32 → jT → Option (Int32 × jT)} (hk63 : ∀ {rd : Value} {x2 : Int32} {x3 : Int32} {x5 : Int32} {x6 : Int32} {x7 : Int32} {w1 : Value} {w4 : Value} {w8 : Value} {σ : jT}, jw (k63 x2 x3 x5 x6 x7 σ) (fun q => ∀ rd : Value, Q (some (.int q.1)) (jh (jSrd S rd) q.2)) → jx_Ex (d + 110) jm_l282 jm_b282_63 [.ref 65, w1, .int x2, .int x3, w4, .int x5, .int x6, .int x7, w8] [] (jh (jSrd S rd) σ) Q) : ∀ (n : Nat) {rd : Value} {x2 : Int32} {x3 : Int32} {x5 : Int32} {x6 : Int32} {x7 : Int32} {x8 : Int32} {w1 : Value} {w4 : Value} {σ : jT}, jw (f_X11_stations_b75 k63 n x2 x3 x5 x6 x7 x8 σ) (fun q => ∀ rd : Value, Q (some (.int q.1)) (jh (jSrd S rd) q.2)) → jx_Ex (d + 110) jm_l282 jm_b282_75 [.ref 65, w1, .int x2, .int x3, w4, .int x5, .int x6, .int x7, .int x8] [] (jh (jSrd S rd) σ) Q := by
  intro n
  induction n with
  | zero => intro rd x2 x3 x5 x6 x7 x8 w1 w4 σ h; exact jw_none h
  | succ n ih =>
    intro rd x2 x3 x5 x6 x7 x8 w1 w4 σ h
    rw [f_X11_stations_b75] at h
    refine xo_1 rfl ?_
    refine xo_2 rfl ?_
    refine xm_32 (i := 4165) (v := (σ.1 4165)) (jSrd_ok hS rd) ly65 rfl ⟨Nat.le_of_ble_eq_true rfl, Nat.le_of_ble_eq_true rfl⟩ rfl ?_
    refine xo_64 (t := jm_b282_123) rfl (fun hc1 => ?_) (fun hc1 => ?_)
    · replace h := jw_pos hc1 h
      refine xo_13 (ls' := [.ref 65, w1, .int x2, .int x3, w4, .int x5, .int x6, .int (x7 + 1), .int x8]) rfl rfl ?_
      refine xo_54 (t := jm_b282_63) rfl ?_
      exact hk63 h
    · replace h := jw_neg hc1 h
      refine xo_0 rfl ?_
      refine xo_2 rfl ?_
      refine xo_1 rfl ?_
      refine xo_1 rfl ?_
      refine xo_1 rfl ?_
      refine xo_49 (st' := [.int x3]) rfl rfl (xm_ly (jSrd_ok hS rd) ly65) rfl (Nat.le_of_ble_eq_true rfl) ?_
      refine t_X11_stopAt hS ?_
      refine jw_mono (jw_bind h) (fun q2 h => ?_)
      show jx_Ex _ _ _ _ [.int q2.1, .int x3] (jh (jSrd S rd) q2.2) _
      refine xo_8 ?_
      refine xo_62 (t := jm_b282_103) rfl (fun hc3 => ?_) (fun hc3 => ?_)
      · replace h := jw_pos hc3 h
        refine xo_8 ?_
        refine xo_2 rfl ?_
        refine xo_1 rfl ?_
        refine xo_1 rfl ?_
        refine xo_1 rfl ?_
        refine xo_49 (st' := [.int 1, .int x3]) rfl rfl (xm_ly (jSrd_ok hS rd) ly65) rfl (Nat.le_of_ble_eq_true rfl) ?_
        refine t_X11_stopAt hS ?_
        refine jw_mono (jw_bind h) (fun q4 h => ?_)
        show jx_Ex _ _ _ _ [.int q4.1, .int 1, .int x3] (jh (jSrd S rd) q4.2) _
        refine xo_23 ?_
        exact t_X11_stations_b115 hS ih h
      · replace h := jw_neg hc3 h
        refine xo_8 ?_
        refine xo_54 (t := jm_b282_115) rfl ?_
        exact t_X11_stations_b115 hS ih h
theorem t_X11_stations_b63 {S : jS} (hS : jMok S) {d : Nat} {Q : Option Value → jx_H → Prop} {k39 : Int32 → Int32 → Int32 → Int32 → jT → Option (Int32 × jT)} (hk39 : ∀ {rd : Value} {x2 : Int32} {x3 : Int32} {x5 : Int32} {x6 : Int32} {w1 : Value} {w4 : Value} {w7 : Value} {w8 : Value} {σ : jT}, jw (k39 x2 x3 x5 x6 σ) (fun q => ∀ rd : Value, Q (some (.int q.1)) (jh (jSrd S rd) q.2)) → jx_Ex (d + 110) jm_l282 jm_b282_39 [.ref 65, w1, .int x2, .int x3, w4, .int x5, .int x6, w7, w8] [] (jh (jSrd S rd) σ) Q) : ∀ (n : Nat) {rd : Value} {x2 : Int32} {x3 : Int32} {x5 : Int32} {x6 : Int32} {x7 : Int32} {w1 : Value} {w4 : Value} {w8 : Value} {σ : jT}, jw (f_X11_stations_b63 k39 n x2 x3 x5 x6 x7 σ) (fun q => ∀ rd : Value, Q (some (.int q.1)) (jh (jSrd S rd) q.2)) → jx_Ex (d + 110) jm_l282 jm_b282_63 [.ref 65, w1, .int x2, .int x3, w4, .int x5, .int x6, .int x7, w8] [] (jh (jSrd S rd) σ) Q := by
  intro n
  induction n with
  | zero => intro rd x2 x3 x5 x6 x7 w1 w4 w8 σ h; exact jw_none h
  | succ n ih =>
    intro rd x2 x3 x5 x6 x7 w1 w4 w8 σ h
    rw [f_X11_stations_b63] at h
    refine xo_1 rfl ?_
    refine xo_2 rfl ?_
    refine xm_32 (i := 4165) (v := (σ.1 4165)) (jSrd_ok hS rd) ly65 rfl ⟨Nat.le_of_ble_eq_true rfl, Nat.le_of_ble_eq_true rfl⟩ rfl ?_
    refine xo_64 (t := jm_b282_129) rfl (fun hc1 => ?_) (fun hc1 => ?_)
    · replace h := jw_pos hc1 h
      exact t_X11_stations_b129 hS hk39 h
    · replace h := jw_neg hc1 h
      refine xo_8 ?_
      refine xo_5 (ls' := [.ref 65, w1, .int x2, .int x3, w4, .int x5, .int x6, .int x7, .int 0]) rfl ?_
      exact t_X11_stations_b75 hS ih 1000 h
theorem t_X11_stations_b39 {S : jS} (hS : jMok S) {d : Nat} {Q : Option Value → jx_H → Prop} {k28 : Int32 → Int32 → Int32 → jT → Option (Int32 × jT)} (hk28 : ∀ {rd : Value} {x2 : Int32} {x3 : Int32} {x4 : Int32} {w1 : Value} {w5 : Value} {w6 : Value} {w7 : Value} {w8 : Value} {σ : jT}, jw (k28 x2 x3 x4 σ) (fun q => ∀ rd : Value, Q (some (.int q.1)) (jh (jSrd S rd) q.2)) → jx_Ex (d + 110) jm_l282 jm_b282_28 [.ref 65, w1, .int x2, .int x3, .int x4, w5, w6, w7, w8] [] (jh (jSrd S rd) σ) Q) : ∀ (n : Nat) {rd : Value} {x2 : Int32} {x3 : Int32} {x5 : Int32} {x6 : Int32} {w1 : Value} {w4 : Value} {w7 : Value} {w8 : Value} {σ : jT}, jw (f_X11_stations_b39 k28 n x2 x3 x5 x6 σ) (fun q => ∀ rd : Value, Q (some (.int q.1)) (jh (jSrd S rd) q.2)) → jx_Ex (d + 110) jm_l282 jm_b282_39 [.ref 65, w1, .int x2, .int x3, w4, .int x5, .int x6, w7, w8] [] (jh (jSrd S rd) σ) Q := by
  intro n
  induction n with
  | zero => intro rd x2 x3 x5 x6 w1 w4 w7 w8 σ h; exact jw_none h
  | succ n ih =>
    intro rd x2 x3 x5 x6 w1 w4 w7 w8 σ h
    rw [f_X11_stations_b39] at h
    refine xo_1 rfl ?_
    refine xo_2 rfl ?_
    refine xm_32 (i := 4161) (v := (σ.1 4161)) (jSrd_ok hS rd) ly65 rfl ⟨Nat.le_of_ble_eq_true rfl, Nat.le_of_ble_eq_true rfl⟩ rfl ?_
    refine xo_64 (t := jm_b282_135) rfl (fun hc1 => ?_) (fun hc1 => ?_)
    · replace h := jw_pos hc1 h
      refine xo_0 rfl ?_
      refine xo_0 rfl ?_
      refine xo_2 rfl ?_
      refine xm_32 (i := 4164) (v := (σ.1 4164)) (jSrd_ok hS rd) ly65 rfl ⟨Nat.le_of_ble_eq_true rfl, Nat.le_of_ble_eq_true rfl⟩ rfl ?_
      refine xo_20 ?_
      refine xo_21 ?_
      refine xo_4 (ls' := [.ref 65, w1, .int (x2 ||| (x3 &&& (σ.1 4164))), .int x3, w4, .int x5, .int x6, w7, w8]) rfl ?_
      refine xo_0 rfl ?_
      refine xo_1 rfl ?_
      refine xo_61 (t := jm_b282_154) rfl (fun hc2 => ?_) (fun hc2 => ?_)
      · replace h := jw_pos hc2 h
        refine xo_8 ?_
        exact t_X11_stations_b155 hS hk28 h
      · replace h := jw_neg hc2 h
        refine xo_8 ?_
        refine xo_54 (t := jm_b282_155) rfl ?_
        exact t_X11_stations_b155 hS hk28 h
    · replace h := jw_neg hc1 h
      refine xo_0 rfl ?_
      refine xo_1 rfl ?_
      refine xo_50 (st' := []) rfl rfl rfl (Nat.le_of_ble_eq_true rfl) ?_
      refine t_X11_has hS ?_
      refine jw_mono (jw_bind h) (fun q3 h => ?_)
      show jx_Ex _ _ _ _ [.int q3.1] (jh (jSrd S rd) q3.2) _
      refine xo_56 (t := jm_b282_60) rfl (fun hc4 => ?_) (fun hc4 => ?_)
      · replace h := jw_pos hc4 h
        refine xo_8 ?_
        refine xo_5 (ls' := [.ref 65, w1, .int x2, .int x3, w4, .int x5, .int x6, .int 0, w8]) rfl ?_
        exact t_X11_stations_b63 hS ih 1000 h
      · replace h := jw_neg hc4 h
        refine xo_54 (t := jm_b282_129) rfl ?_
        exact t_X11_stations_b129 hS ih h
theorem t_X11_stations_b28 {S : jS} (hS : jMok S) {d : Nat} {Q : Option Value → jx_H → Prop} : ∀ (n : Nat) {rd : Value} {x2 : Int32} {x3 : Int32} {x4 : Int32} {w1 : Value} {w5 : Value} {w6 : Value} {w7 : Value} {w8 : Value} {σ : jT}, jw (f_X11_stations_b28 n x2 x3 x4 σ) (fun q => ∀ rd : Value, Q (some (.int q.1)) (jh (jSrd S rd) q.2)) → jx_Ex (d + 110) jm_l282 jm_b282_28 [.ref 65, w1, .int x2, .int x3, .int x4, w5, w6, w7, w8] [] (jh (jSrd S rd) σ) Q := by
  intro n
  induction n with
  | zero => intro rd x2 x3 x4 w1 w5 w6 w7 w8 σ h; exact jw_none h
  | succ n ih =>
    intro rd x2 x3 x4 w1 w5 w6 w7 w8 σ h
    rw [f_X11_stations_b28] at h
    refine xo_1 rfl ?_
    refine xo_55 (t := jm_b282_160) rfl (fun hc1 => ?_) (fun hc1 => ?_)
    · replace h := jw_pos hc1 h
      refine xo_2 rfl ?_
      refine xo_8 ?_
      refine xm_34 (i := 4171) (jSrd_ok hS rd) ly65 rfl ⟨Nat.le_of_ble_eq_true rfl, Nat.le_of_ble_eq_true rfl⟩ ?_
      refine xo_2 rfl ?_
      refine xo_0 rfl ?_
      refine xo_2 rfl ?_
      refine xm_32 (i := 4164) (v := (σ.1 4164)) (jSrd_ok hS rd) ly65 rfl ⟨Nat.le_of_ble_eq_true rfl, Nat.le_of_ble_eq_true rfl⟩ rfl ?_
      refine xo_8 ?_
      refine xo_22 ?_
      refine xo_20 ?_
      refine xo_49 (st' := []) rfl rfl (xm_ly (jSrd_ok hS rd) ly65) rfl (Nat.le_of_ble_eq_true rfl) ?_
      refine t_X11_tell hS ?_
      refine jw_mono (jw_bind h) (fun q2 h => ?_)
      show jx_Ex _ _ _ _ [] (jh (jSrd S rd) q2.2) _
      refine xo_0 rfl ?_
      replace h := jw_some h
      exact xo_69 (h rd)
    · replace h := jw_neg hc1 h
      refine xo_0 rfl ?_
      refine xo_5 (ls' := [.ref 65, w1, .int x2, .int x3, .int x4, .int x3, w6, w7, w8]) rfl ?_
      refine xo_8 ?_
      refine xo_5 (ls' := [.ref 65, w1, .int x2, .int x3, .int x4, .int x3, .int 0, w7, w8]) rfl ?_
      exact t_X11_stations_b39 hS ih 1000 h
theorem t_X11_stations {S : jS} (hS : jMok S) {d : Nat} {Q : Option Value → jx_H → Prop} {rd : Value} {x1 : Int32} {σ : jT} (h : jw (f_X11_stations x1 σ) (fun q => ∀ rd : Value, Q (some (.int q.1)) (jh (jSrd S rd) q.2))) : jx_Sp (d + 110) 282 [.ref 65, .int x1] (jh (jSrd S rd) σ) Q := by
  refine ⟨jm_i282, jm_at282, rfl, rfl, ?_⟩
  show jx_Ex _ jm_l282 jm_b282_0 [.ref 65, .int x1, .retAddr 0, .retAddr 0, .retAddr 0, .retAddr 0, .retAddr 0, .retAddr 0, .retAddr 0] [] _ _
  unfold f_X11_stations at h
  refine xo_2 rfl ?_
  refine xo_8 ?_
  refine xm_34 (i := 4172) (jSrd_ok hS rd) ly65 rfl ⟨Nat.le_of_ble_eq_true rfl, Nat.le_of_ble_eq_true rfl⟩ ?_
  refine xo_2 rfl ?_
  refine xo_0 rfl ?_
  refine xo_49 (st' := []) rfl rfl (xm_ly (jSrd_ok hS rd) ly65) rfl (Nat.le_of_ble_eq_true rfl) ?_
  refine t_X11_isPlace hS ?_
  refine jw_mono (jw_bind h) (fun q1 h => ?_)
  show jx_Ex _ _ _ _ [.int q1.1] (jh (jSrd S rd) q1.2) _
  refine xo_56 (t := jm_b282_15) rfl (fun hc2 => ?_) (fun hc2 => ?_)
  · replace h := jw_pos hc2 h
    refine xo_2 rfl ?_
    refine xo_49 (st' := []) rfl rfl (xm_ly (jSrd_ok hS rd) ly65) rfl (Nat.le_of_ble_eq_true rfl) ?_
    refine t_X11_layStops hS ?_
    refine jw_mono (jw_bind h) (fun q3 h rd4 => ?_)
    show jx_Ex _ _ _ _ [] (jh (jSrd S rd4) q3.2) _
    refine xo_8 ?_
    refine xo_0 rfl ?_
    refine xo_23 ?_
    refine xo_4 (ls' := [.ref 65, .int x1, .int (1 <<< (x1 &&& 31)), .retAddr 0, .retAddr 0, .retAddr 0, .retAddr 0, .retAddr 0, .retAddr 0]) rfl ?_
    refine xo_8 ?_
    refine xo_4 (ls' := [.ref 65, .int x1, .int (1 <<< (x1 &&& 31)), .int 0, .retAddr 0, .retAddr 0, .retAddr 0, .retAddr 0, .retAddr 0]) rfl ?_
    refine xo_8 ?_
    refine xo_5 (ls' := [.ref 65, .int x1, .int (1 <<< (x1 &&& 31)), .int 0, .int 1, .retAddr 0, .retAddr 0, .retAddr 0, .retAddr 0]) rfl ?_
    exact t_X11_stations_b28 hS 1000 h
  · replace h := jw_neg hc2 h
    refine xo_8 ?_
    replace h := jw_some h
    exact xo_69 (h rd)
/-- OfDifferentMindsModel.foot, at ['m', 'int', 'int'] K -/
def f_X11_foot_b178 (k170 : Int32 → Int32 → Int32 → jT → Option (Int32 × jT)) : Nat → Int32 → Int32 → Int32 → Int32 → jT → Option (Int32 × jT)
  | 0, _, _, _, _, _ => none
  | n + 1, x1, x2, x3, x4, σ =>
    if jx_in ((3 * x3) + x4) 30 then
    if jx_in (σ.2 68 ((3 * x3) + x4).toNatClampNeg) 10 then
    if jx_in x3 10 then
    if ((σ.2 85 (σ.2 68 ((3 * x3) + x4).toNatClampNeg).toNatClampNeg) + 1) = (σ.2 85 x3.toNatClampNeg) then
      (f_X11_tell x4 σ).bind fun q5 =>
      k170 x1 x2 (q5.2.2 68 ((3 * x3) + x4).toNatClampNeg) q5.2
    else
      f_X11_foot_b178 k170 n x1 x2 x3 (x4 + 1) σ
    else none
    else none
    else none
def f_X11_foot_b170 : Nat → Int32 → Int32 → Int32 → jT → Option (Int32 × jT)
  | 0, _, _, _, _ => none
  | n + 1, x1, x2, x3, σ =>
    if x3 = x2 then
      if jx_in x1 10 then
      some ((σ.2 85 x1.toNatClampNeg), σ)
      else none
    else
      f_X11_foot_b178 (f_X11_foot_b170 n) 1000 x1 x2 x3 0 σ
def f_X11_foot_b82 (k70 : Int32 → Int32 → Int32 → Int32 → jT → Option (Int32 × jT)) : Nat → Int32 → Int32 → Int32 → Int32 → Int32 → jT → Option (Int32 × jT)
  | 0, _, _, _, _, _, _ => none
  | n + 1, x1, x2, x3, x4, x5, σ =>
    if jx_in x4 10 then
    if (σ.2 67 x4.toNatClampNeg) ≤ x5 then
      k70 x1 x2 x3 (x4 + 1) σ
    else
      if jx_in ((3 * x4) + x5) 30 then
      if jx_in (σ.2 68 ((3 * x4) + x5).toNatClampNeg) 10 then
      f_X11_foot_b82 k70 n x1 x2 x3 x4 (x5 + 1) (gA σ 85 x4.toNatClampNeg (jx_min (σ.2 85 x4.toNatClampNeg) ((σ.2 85 (σ.2 68 ((3 * x4) + x5).toNatClampNeg).toNatClampNeg) + 1)))
      else none
      else none
    else none
def f_X11_foot_b70 (k59 : Int32 → Int32 → Int32 → jT → Option (Int32 × jT)) : Nat → Int32 → Int32 → Int32 → Int32 → jT → Option (Int32 × jT)
  | 0, _, _, _, _, _ => none
  | n + 1, x1, x2, x3, x4, σ =>
    if (σ.1 4161) ≤ x4 then
      k59 x1 x2 (x3 + 1) σ
    else
      f_X11_foot_b82 (f_X11_foot_b70 k59 n) 1000 x1 x2 x3 x4 0 σ
def f_X11_foot_b59 : Nat → Int32 → Int32 → Int32 → jT → Option (Int32 × jT)
  | 0, _, _, _, _ => none
  | n + 1, x1, x2, x3, σ =>
    if (σ.1 4161) ≤ x3 then
      if jx_in x1 10 then
      if (σ.2 85 x1.toNatClampNeg) < 1000000 then
        f_X11_foot_b170 1000 x1 x2 x1 (gs σ 4171 0)
      else
        some ((-2), σ)
      else none
    else
      f_X11_foot_b70 (f_X11_foot_b59 n) 1000 x1 x2 x3 0 σ
def f_X11_foot_b50 (k25 : Int32 → Int32 → Int32 → jT → Option (Int32 × jT)) (x1 : Int32) (x2 : Int32) (x3 : Int32) (s0 : Int32) (s1 : Int32) (σ : jT) : Option (Int32 × jT) :=
  if jx_in s1 10 then
  k25 x1 x2 (x3 + 1) (gA σ 85 s1.toNatClampNeg s0)
  else none
def f_X11_foot_b25 : Nat → Int32 → Int32 → Int32 → jT → Option (Int32 × jT)
  | 0, _, _, _, _ => none
  | n + 1, x1, x2, x3, σ =>
    if (σ.1 4161) ≤ x3 then
      f_X11_foot_b59 1000 x1 x2 0 σ
    else
      if ¬ x3 = x2 then
        f_X11_foot_b50 (f_X11_foot_b25 n) x1 x2 x3 1000000 x3 σ
      else
        f_X11_foot_b50 (f_X11_foot_b25 n) x1 x2 x3 0 x3 σ
def f_X11_foot (x1 : Int32) (x2 : Int32) (σ : jT) : Option (Int32 × jT) :=
  (f_X11_isPlace x1 (gs σ 4172 0)).bind fun q1 =>
  if q1.1 = 0 then
    some ((-1), q1.2)
  else
    (f_X11_isPlace x2 q1.2).bind fun q3 =>
    if ¬ q3.1 = 0 then
      f_X11_foot_b25 1000 x1 x2 0 q3.2
    else
      some ((-1), q3.2)
theorem t_X11_foot_b178 {S : jS} (hS : jMok S) {d : Nat} {Q : Option Value → jx_H → Prop} {rd : Value} {k170 : Int32 → Int32 → Int32 → jT → Option (Int32 × jT)} (hk170 : ∀ {x1 : Int32} {x2 : Int32} {x3 : Int32} {w4 : Value} {w5 : Value} {σ : jT}, jw (k170 x1 x2 x3 σ) (fun q => Q (some (.int q.1)) (jh (jSrd S rd) q.2)) → jx_Ex (d + 2) jm_l283 jm_b283_170 [.ref 65, .int x1, .int x2, .int x3, w4, w5] [] (jh (jSrd S rd) σ) Q) : ∀ (n : Nat) {x1 : Int32} {x2 : Int32} {x3 : Int32} {x4 : Int32} {w5 : Value} {σ : jT}, jw (f_X11_foot_b178 k170 n x1 x2 x3 x4 σ) (fun q => Q (some (.int q.1)) (jh (jSrd S rd) q.2)) → jx_Ex (d + 2) jm_l283 jm_b283_178 [.ref 65, .int x1, .int x2, .int x3, .int x4, w5] [] (jh (jSrd S rd) σ) Q := by
  intro n
  induction n with
  | zero => intro x1 x2 x3 x4 w5 σ h; exact jw_none h
  | succ n ih =>
    intro x1 x2 x3 x4 w5 σ h
    rw [f_X11_foot_b178] at h
    refine xo_2 rfl ?_
    refine xm_33 (i := 4198) (q := 85) (jSrd_ok hS rd) ly65 rfl (xm_P (jSrd_ok hS rd) (by decide)) ?_
    refine xo_2 rfl ?_
    refine xm_33 (i := 4163) (q := 68) (jSrd_ok hS rd) ly65 rfl (xm_P (jSrd_ok hS rd) (by decide)) ?_
    refine xo_8 ?_
    refine xo_0 rfl ?_
    refine xo_16 ?_
    refine xo_1 rfl ?_
    refine xo_14 ?_
    obtain ⟨hi1, h⟩ := jw_chk h
    refine xm_38 (j := ((3 * x3) + x4).toNatClampNeg) (v := (σ.2 68 ((3 * x3) + x4).toNatClampNeg)) (jSrd_ok hS rd) ly68 ⟨Nat.le_of_ble_eq_true rfl, Nat.le_of_ble_eq_true rfl⟩ hi1 rfl rfl ?_
    obtain ⟨hi2, h⟩ := jw_chk h
    refine xm_38 (j := (σ.2 68 ((3 * x3) + x4).toNatClampNeg).toNatClampNeg) (v := (σ.2 85 (σ.2 68 ((3 * x3) + x4).toNatClampNeg).toNatClampNeg)) (jSrd_ok hS rd) ly85 ⟨Nat.le_of_ble_eq_true rfl, Nat.le_of_ble_eq_true rfl⟩ hi2 rfl rfl ?_
    refine xo_8 ?_
    refine xo_14 ?_
    refine xo_2 rfl ?_
    refine xm_33 (i := 4198) (q := 85) (jSrd_ok hS rd) ly65 rfl (xm_P (jSrd_ok hS rd) (by decide)) ?_
    refine xo_0 rfl ?_
    obtain ⟨hi3, h⟩ := jw_chk h
    refine xm_38 (j := x3.toNatClampNeg) (v := (σ.2 85 x3.toNatClampNeg)) (jSrd_ok hS rd) ly85 ⟨Nat.le_of_ble_eq_true rfl, Nat.le_of_ble_eq_true rfl⟩ hi3 rfl rfl ?_
    refine xo_61 (t := jm_b283_211) rfl (fun hc4 => ?_) (fun hc4 => ?_)
    · replace h := jw_pos hc4 h
      refine xo_2 rfl ?_
      refine xo_1 rfl ?_
      refine xo_49 (st' := []) rfl rfl (xm_ly (jSrd_ok hS rd) ly65) rfl (Nat.le_of_ble_eq_true rfl) ?_
      refine t_X11_tell hS ?_
      refine jw_mono (jw_bind h) (fun q5 h => ?_)
      show jx_Ex _ _ _ _ [] (jh (jSrd S rd) q5.2) _
      refine xo_2 rfl ?_
      refine xm_33 (i := 4163) (q := 68) (jSrd_ok hS rd) ly65 rfl (xm_P (jSrd_ok hS rd) (by decide)) ?_
      refine xo_8 ?_
      refine xo_0 rfl ?_
      refine xo_16 ?_
      refine xo_1 rfl ?_
      refine xo_14 ?_
      refine xm_38 (j := ((3 * x3) + x4).toNatClampNeg) (v := (q5.2.2 68 ((3 * x3) + x4).toNatClampNeg)) (jSrd_ok hS rd) ly68 ⟨Nat.le_of_ble_eq_true rfl, Nat.le_of_ble_eq_true rfl⟩ hi1 rfl rfl ?_
      refine xo_4 (ls' := [.ref 65, .int x1, .int x2, .int (q5.2.2 68 ((3 * x3) + x4).toNatClampNeg), .int x4, w5]) rfl ?_
      refine xo_54 (t := jm_b283_170) rfl ?_
      exact hk170 h
    · replace h := jw_neg hc4 h
      refine xo_13 (ls' := [.ref 65, .int x1, .int x2, .int x3, .int (x4 + 1), w5]) rfl rfl ?_
      refine xo_54 (t := jm_b283_178) rfl ?_
      exact ih h
theorem t_X11_foot_b170 {S : jS} (hS : jMok S) {d : Nat} {Q : Option Value → jx_H → Prop} {rd : Value} : ∀ (n : Nat) {x1 : Int32} {x2 : Int32} {x3 : Int32} {w4 : Value} {w5 : Value} {σ : jT}, jw (f_X11_foot_b170 n x1 x2 x3 σ) (fun q => Q (some (.int q.1)) (jh (jSrd S rd) q.2)) → jx_Ex (d + 2) jm_l283 jm_b283_170 [.ref 65, .int x1, .int x2, .int x3, w4, w5] [] (jh (jSrd S rd) σ) Q := by
  intro n
  induction n with
  | zero => intro x1 x2 x3 w4 w5 σ h; exact jw_none h
  | succ n ih =>
    intro x1 x2 x3 w4 w5 σ h
    rw [f_X11_foot_b170] at h
    refine xo_0 rfl ?_
    refine xo_0 rfl ?_
    refine xo_61 (t := jm_b283_232) rfl (fun hc1 => ?_) (fun hc1 => ?_)
    · replace h := jw_pos hc1 h
      refine xo_2 rfl ?_
      refine xm_33 (i := 4198) (q := 85) (jSrd_ok hS rd) ly65 rfl (xm_P (jSrd_ok hS rd) (by decide)) ?_
      refine xo_0 rfl ?_
      obtain ⟨hi2, h⟩ := jw_chk h
      refine xm_38 (j := x1.toNatClampNeg) (v := (σ.2 85 x1.toNatClampNeg)) (jSrd_ok hS rd) ly85 ⟨Nat.le_of_ble_eq_true rfl, Nat.le_of_ble_eq_true rfl⟩ hi2 rfl rfl ?_
      replace h := jw_some h
      exact xo_69 h
    · replace h := jw_neg hc1 h
      refine xo_8 ?_
      refine xo_5 (ls' := [.ref 65, .int x1, .int x2, .int x3, .int 0, w5]) rfl ?_
      exact t_X11_foot_b178 hS ih 1000 h
theorem t_X11_foot_b82 {S : jS} (hS : jMok S) {d : Nat} {Q : Option Value → jx_H → Prop} {rd : Value} {k70 : Int32 → Int32 → Int32 → Int32 → jT → Option (Int32 × jT)} (hk70 : ∀ {x1 : Int32} {x2 : Int32} {x3 : Int32} {x4 : Int32} {w5 : Value} {σ : jT}, jw (k70 x1 x2 x3 x4 σ) (fun q => Q (some (.int q.1)) (jh (jSrd S rd) q.2)) → jx_Ex (d + 2) jm_l283 jm_b283_70 [.ref 65, .int x1, .int x2, .int x3, .int x4, w5] [] (jh (jSrd S rd) σ) Q) : ∀ (n : Nat) {x1 : Int32} {x2 : Int32} {x3 : Int32} {x4 : Int32} {x5 : Int32} {σ : jT}, jw (f_X11_foot_b82 k70 n x1 x2 x3 x4 x5 σ) (fun q => Q (some (.int q.1)) (jh (jSrd S rd) q.2)) → jx_Ex (d + 2) jm_l283 jm_b283_82 [.ref 65, .int x1, .int x2, .int x3, .int x4, .int x5] [] (jh (jSrd S rd) σ) Q := by
  intro n
  induction n with
  | zero => intro x1 x2 x3 x4 x5 σ h; exact jw_none h
  | succ n ih =>
    intro x1 x2 x3 x4 x5 σ h
    rw [f_X11_foot_b82] at h
    refine xo_1 rfl ?_
    refine xo_2 rfl ?_
    refine xm_33 (i := 4162) (q := 67) (jSrd_ok hS rd) ly65 rfl (xm_P (jSrd_ok hS rd) (by decide)) ?_
    refine xo_1 rfl ?_
    obtain ⟨hi1, h⟩ := jw_chk h
    refine xm_38 (j := x4.toNatClampNeg) (v := (σ.2 67 x4.toNatClampNeg)) (jSrd_ok hS rd) ly67 ⟨Nat.le_of_ble_eq_true rfl, Nat.le_of_ble_eq_true rfl⟩ hi1 rfl rfl ?_
    refine xo_64 (t := jm_b283_136) rfl (fun hc2 => ?_) (fun hc2 => ?_)
    · replace h := jw_pos hc2 h
      refine xo_13 (ls' := [.ref 65, .int x1, .int x2, .int x3, .int (x4 + 1), .int x5]) rfl rfl ?_
      refine xo_54 (t := jm_b283_70) rfl ?_
      exact hk70 h
    · replace h := jw_neg hc2 h
      refine xo_2 rfl ?_
      refine xm_33 (i := 4198) (q := 85) (jSrd_ok hS rd) ly65 rfl (xm_P (jSrd_ok hS rd) (by decide)) ?_
      refine xo_1 rfl ?_
      refine xo_2 rfl ?_
      refine xm_33 (i := 4198) (q := 85) (jSrd_ok hS rd) ly65 rfl (xm_P (jSrd_ok hS rd) (by decide)) ?_
      refine xo_1 rfl ?_
      refine xm_38 (j := x4.toNatClampNeg) (v := (σ.2 85 x4.toNatClampNeg)) (jSrd_ok hS rd) ly85 ⟨Nat.le_of_ble_eq_true rfl, Nat.le_of_ble_eq_true rfl⟩ hi1 rfl rfl ?_
      refine xo_2 rfl ?_
      refine xm_33 (i := 4198) (q := 85) (jSrd_ok hS rd) ly65 rfl (xm_P (jSrd_ok hS rd) (by decide)) ?_
      refine xo_2 rfl ?_
      refine xm_33 (i := 4163) (q := 68) (jSrd_ok hS rd) ly65 rfl (xm_P (jSrd_ok hS rd) (by decide)) ?_
      refine xo_8 ?_
      refine xo_1 rfl ?_
      refine xo_16 ?_
      refine xo_1 rfl ?_
      refine xo_14 ?_
      obtain ⟨hi3, h⟩ := jw_chk h
      refine xm_38 (j := ((3 * x4) + x5).toNatClampNeg) (v := (σ.2 68 ((3 * x4) + x5).toNatClampNeg)) (jSrd_ok hS rd) ly68 ⟨Nat.le_of_ble_eq_true rfl, Nat.le_of_ble_eq_true rfl⟩ hi3 rfl rfl ?_
      obtain ⟨hi4, h⟩ := jw_chk h
      refine xm_38 (j := (σ.2 68 ((3 * x4) + x5).toNatClampNeg).toNatClampNeg) (v := (σ.2 85 (σ.2 68 ((3 * x4) + x5).toNatClampNeg).toNatClampNeg)) (jSrd_ok hS rd) ly85 ⟨Nat.le_of_ble_eq_true rfl, Nat.le_of_ble_eq_true rfl⟩ hi4 rfl rfl ?_
      refine xo_8 ?_
      refine xo_14 ?_
      refine xo_73 (Nat.le_of_ble_eq_true rfl) ?_
      refine xm_41 (j := x4.toNatClampNeg) (jSrd_ok hS rd) ly85 ⟨Nat.le_of_ble_eq_true rfl, Nat.le_of_ble_eq_true rfl⟩ hi1 rfl ?_
      refine xo_13 (ls' := [.ref 65, .int x1, .int x2, .int x3, .int x4, .int (x5 + 1)]) rfl rfl ?_
      refine xo_54 (t := jm_b283_82) rfl ?_
      exact ih h
theorem t_X11_foot_b70 {S : jS} (hS : jMok S) {d : Nat} {Q : Option Value → jx_H → Prop} {rd : Value} {k59 : Int32 → Int32 → Int32 → jT → Option (Int32 × jT)} (hk59 : ∀ {x1 : Int32} {x2 : Int32} {x3 : Int32} {w4 : Value} {w5 : Value} {σ : jT}, jw (k59 x1 x2 x3 σ) (fun q => Q (some (.int q.1)) (jh (jSrd S rd) q.2)) → jx_Ex (d + 2) jm_l283 jm_b283_59 [.ref 65, .int x1, .int x2, .int x3, w4, w5] [] (jh (jSrd S rd) σ) Q) : ∀ (n : Nat) {x1 : Int32} {x2 : Int32} {x3 : Int32} {x4 : Int32} {w5 : Value} {σ : jT}, jw (f_X11_foot_b70 k59 n x1 x2 x3 x4 σ) (fun q => Q (some (.int q.1)) (jh (jSrd S rd) q.2)) → jx_Ex (d + 2) jm_l283 jm_b283_70 [.ref 65, .int x1, .int x2, .int x3, .int x4, w5] [] (jh (jSrd S rd) σ) Q := by
  intro n
  induction n with
  | zero => intro x1 x2 x3 x4 w5 σ h; exact jw_none h
  | succ n ih =>
    intro x1 x2 x3 x4 w5 σ h
    rw [f_X11_foot_b70] at h
    refine xo_1 rfl ?_
    refine xo_2 rfl ?_
    refine xm_32 (i := 4161) (v := (σ.1 4161)) (jSrd_ok hS rd) ly65 rfl ⟨Nat.le_of_ble_eq_true rfl, Nat.le_of_ble_eq_true rfl⟩ rfl ?_
    refine xo_64 (t := jm_b283_142) rfl (fun hc1 => ?_) (fun hc1 => ?_)
    · replace h := jw_pos hc1 h
      refine xo_13 (ls' := [.ref 65, .int x1, .int x2, .int (x3 + 1), .int x4, w5]) rfl rfl ?_
      refine xo_54 (t := jm_b283_59) rfl ?_
      exact hk59 h
    · replace h := jw_neg hc1 h
      refine xo_8 ?_
      refine xo_5 (ls' := [.ref 65, .int x1, .int x2, .int x3, .int x4, .int 0]) rfl ?_
      exact t_X11_foot_b82 hS ih 1000 h
theorem t_X11_foot_b59 {S : jS} (hS : jMok S) {d : Nat} {Q : Option Value → jx_H → Prop} {rd : Value} : ∀ (n : Nat) {x1 : Int32} {x2 : Int32} {x3 : Int32} {w4 : Value} {w5 : Value} {σ : jT}, jw (f_X11_foot_b59 n x1 x2 x3 σ) (fun q => Q (some (.int q.1)) (jh (jSrd S rd) q.2)) → jx_Ex (d + 2) jm_l283 jm_b283_59 [.ref 65, .int x1, .int x2, .int x3, w4, w5] [] (jh (jSrd S rd) σ) Q := by
  intro n
  induction n with
  | zero => intro x1 x2 x3 w4 w5 σ h; exact jw_none h
  | succ n ih =>
    intro x1 x2 x3 w4 w5 σ h
    rw [f_X11_foot_b59] at h
    refine xo_0 rfl ?_
    refine xo_2 rfl ?_
    refine xm_32 (i := 4161) (v := (σ.1 4161)) (jSrd_ok hS rd) ly65 rfl ⟨Nat.le_of_ble_eq_true rfl, Nat.le_of_ble_eq_true rfl⟩ rfl ?_
    refine xo_64 (t := jm_b283_148) rfl (fun hc1 => ?_) (fun hc1 => ?_)
    · replace h := jw_pos hc1 h
      refine xo_2 rfl ?_
      refine xm_33 (i := 4198) (q := 85) (jSrd_ok hS rd) ly65 rfl (xm_P (jSrd_ok hS rd) (by decide)) ?_
      refine xo_0 rfl ?_
      obtain ⟨hi2, h⟩ := jw_chk h
      refine xm_38 (j := x1.toNatClampNeg) (v := (σ.2 85 x1.toNatClampNeg)) (jSrd_ok hS rd) ly85 ⟨Nat.le_of_ble_eq_true rfl, Nat.le_of_ble_eq_true rfl⟩ hi2 rfl rfl ?_
      refine xo_12 ?_
      refine xo_63 (t := jm_b283_163) rfl (fun hc3 => ?_) (fun hc3 => ?_)
      · replace h := jw_pos hc3 h
        refine xo_2 rfl ?_
        refine xo_8 ?_
        refine xm_34 (i := 4171) (jSrd_ok hS rd) ly65 rfl ⟨Nat.le_of_ble_eq_true rfl, Nat.le_of_ble_eq_true rfl⟩ ?_
        refine xo_0 rfl ?_
        refine xo_4 (ls' := [.ref 65, .int x1, .int x2, .int x1, w4, w5]) rfl ?_
        exact t_X11_foot_b170 hS 1000 h
      · replace h := jw_neg hc3 h
        refine xo_9 ?_
        replace h := jw_some h
        exact xo_69 h
    · replace h := jw_neg hc1 h
      refine xo_8 ?_
      refine xo_5 (ls' := [.ref 65, .int x1, .int x2, .int x3, .int 0, w5]) rfl ?_
      exact t_X11_foot_b70 hS ih 1000 h
theorem t_X11_foot_b50 {S : jS} (hS : jMok S) {d : Nat} {Q : Option Value → jx_H → Prop} {rd : Value} {k25 : Int32 → Int32 → Int32 → jT → Option (Int32 × jT)} (hk25 : ∀ {x1 : Int32} {x2 : Int32} {x3 : Int32} {w4 : Value} {w5 : Value} {σ : jT}, jw (k25 x1 x2 x3 σ) (fun q => Q (some (.int q.1)) (jh (jSrd S rd) q.2)) → jx_Ex (d + 2) jm_l283 jm_b283_25 [.ref 65, .int x1, .int x2, .int x3, w4, w5] [] (jh (jSrd S rd) σ) Q) {x1 : Int32} {x2 : Int32} {x3 : Int32} {s0 : Int32} {s1 : Int32} {w4 : Value} {w5 : Value} {σ : jT} (h : jw (f_X11_foot_b50 k25 x1 x2 x3 s0 s1 σ) (fun q => Q (some (.int q.1)) (jh (jSrd S rd) q.2))) : jx_Ex (d + 2) jm_l283 jm_b283_50 [.ref 65, .int x1, .int x2, .int x3, w4, w5] [.int s0, .int s1, .ref 85] (jh (jSrd S rd) σ) Q := by
  unfold f_X11_foot_b50 at h
  obtain ⟨hi1, h⟩ := jw_chk h
  refine xm_41 (j := s1.toNatClampNeg) (jSrd_ok hS rd) ly85 ⟨Nat.le_of_ble_eq_true rfl, Nat.le_of_ble_eq_true rfl⟩ hi1 rfl ?_
  refine xo_13 (ls' := [.ref 65, .int x1, .int x2, .int (x3 + 1), w4, w5]) rfl rfl ?_
  refine xo_54 (t := jm_b283_25) rfl ?_
  exact hk25 h
theorem t_X11_foot_b25 {S : jS} (hS : jMok S) {d : Nat} {Q : Option Value → jx_H → Prop} {rd : Value} : ∀ (n : Nat) {x1 : Int32} {x2 : Int32} {x3 : Int32} {w4 : Value} {w5 : Value} {σ : jT}, jw (f_X11_foot_b25 n x1 x2 x3 σ) (fun q => Q (some (.int q.1)) (jh (jSrd S rd) q.2)) → jx_Ex (d + 2) jm_l283 jm_b283_25 [.ref 65, .int x1, .int x2, .int x3, w4, w5] [] (jh (jSrd S rd) σ) Q := by
  intro n
  induction n with
  | zero => intro x1 x2 x3 w4 w5 σ h; exact jw_none h
  | succ n ih =>
    intro x1 x2 x3 w4 w5 σ h
    rw [f_X11_foot_b25] at h
    refine xo_0 rfl ?_
    refine xo_2 rfl ?_
    refine xm_32 (i := 4161) (v := (σ.1 4161)) (jSrd_ok hS rd) ly65 rfl ⟨Nat.le_of_ble_eq_true rfl, Nat.le_of_ble_eq_true rfl⟩ rfl ?_
    refine xo_64 (t := jm_b283_57) rfl (fun hc1 => ?_) (fun hc1 => ?_)
    · replace h := jw_pos hc1 h
      refine xo_8 ?_
      refine xo_4 (ls' := [.ref 65, .int x1, .int x2, .int 0, w4, w5]) rfl ?_
      exact t_X11_foot_b59 hS 1000 h
    · replace h := jw_neg hc1 h
      refine xo_2 rfl ?_
      refine xm_33 (i := 4198) (q := 85) (jSrd_ok hS rd) ly65 rfl (xm_P (jSrd_ok hS rd) (by decide)) ?_
      refine xo_0 rfl ?_
      refine xo_0 rfl ?_
      refine xo_0 rfl ?_
      refine xo_62 (t := jm_b283_47) rfl (fun hc2 => ?_) (fun hc2 => ?_)
      · replace h := jw_pos hc2 h
        refine xo_12 ?_
        exact t_X11_foot_b50 hS ih h
      · replace h := jw_neg hc2 h
        refine xo_8 ?_
        refine xo_54 (t := jm_b283_50) rfl ?_
        exact t_X11_foot_b50 hS ih h
theorem t_X11_foot {S : jS} (hS : jMok S) {d : Nat} {Q : Option Value → jx_H → Prop} {rd : Value} {x1 : Int32} {x2 : Int32} {σ : jT} (h : jw (f_X11_foot x1 x2 σ) (fun q => Q (some (.int q.1)) (jh (jSrd S rd) q.2))) : jx_Sp (d + 2) 283 [.ref 65, .int x1, .int x2] (jh (jSrd S rd) σ) Q := by
  refine ⟨jm_i283, jm_at283, rfl, rfl, ?_⟩
  show jx_Ex _ jm_l283 jm_b283_0 [.ref 65, .int x1, .int x2, .retAddr 0, .retAddr 0, .retAddr 0] [] _ _
  unfold f_X11_foot at h
  refine xo_2 rfl ?_
  refine xo_8 ?_
  refine xm_34 (i := 4172) (jSrd_ok hS rd) ly65 rfl ⟨Nat.le_of_ble_eq_true rfl, Nat.le_of_ble_eq_true rfl⟩ ?_
  refine xo_2 rfl ?_
  refine xo_0 rfl ?_
  refine xo_49 (st' := []) rfl rfl (xm_ly (jSrd_ok hS rd) ly65) rfl (Nat.le_of_ble_eq_true rfl) ?_
  refine t_X11_isPlace hS ?_
  refine jw_mono (jw_bind h) (fun q1 h => ?_)
  show jx_Ex _ _ _ _ [.int q1.1] (jh (jSrd S rd) q1.2) _
  refine xo_55 (t := jm_b283_21) rfl (fun hc2 => ?_) (fun hc2 => ?_)
  · replace h := jw_pos hc2 h
    refine xo_8 ?_
    replace h := jw_some h
    exact xo_69 h
  · replace h := jw_neg hc2 h
    refine xo_2 rfl ?_
    refine xo_0 rfl ?_
    refine xo_49 (st' := []) rfl rfl (xm_ly (jSrd_ok hS rd) ly65) rfl (Nat.le_of_ble_eq_true rfl) ?_
    refine t_X11_isPlace hS ?_
    refine jw_mono (jw_bind h) (fun q3 h => ?_)
    show jx_Ex _ _ _ _ [.int q3.1] (jh (jSrd S rd) q3.2) _
    refine xo_56 (t := jm_b283_23) rfl (fun hc4 => ?_) (fun hc4 => ?_)
    · replace h := jw_pos hc4 h
      refine xo_8 ?_
      refine xo_4 (ls' := [.ref 65, .int x1, .int x2, .int 0, .retAddr 0, .retAddr 0]) rfl ?_
      exact t_X11_foot_b25 hS 1000 h
    · replace h := jw_neg hc4 h
      refine xo_8 ?_
      replace h := jw_some h
      exact xo_69 h
/-- OfDifferentMindsModel.stepsOf, at ['m', 'int', 'int', 'int'] U -/
def f_X11_stepsOf (x1 : Int32) (x2 : Int32) (x3 : Int32) (σ : jT) : Option (Int32 × jT) :=
  (f_X11_mountThen x1 x2 x3 0 σ).bind fun q1 =>
  (f_X11_goRide_82 200 q1.2).bind fun q2 =>
  some (q2.1, q2.2)
theorem t_X11_stepsOf {S : jS} (hS : jMok S) {d : Nat} {Q : Option Value → jx_H → Prop} {rd : Value} {x1 : Int32} {x2 : Int32} {x3 : Int32} {σ : jT} (h : jw (f_X11_stepsOf x1 x2 x3 σ) (fun q => ∀ rd : Value, Q (some (.int q.1)) (jh (jSrd S rd) q.2))) : jx_Sp (d + 108) 284 [.ref 65, .int x1, .int x2, .int x3] (jh (jSrd S rd) σ) Q := by
  refine ⟨jm_i284, jm_at284, rfl, rfl, ?_⟩
  show jx_Ex _ jm_l284 jm_b284_0 [.ref 65, .int x1, .int x2, .int x3] [] _ _
  unfold f_X11_stepsOf at h
  refine xo_2 rfl ?_
  refine xo_0 rfl ?_
  refine xo_0 rfl ?_
  refine xo_0 rfl ?_
  refine xo_8 ?_
  refine xo_49 (st' := []) rfl rfl (xm_ly (jSrd_ok hS rd) ly65) rfl (Nat.le_of_ble_eq_true rfl) ?_
  refine t_X11_mountThen hS ?_
  refine jw_mono (jw_bind h) (fun q1 h => ?_)
  show jx_Ex _ _ _ _ [] (jh (jSrd S rd) q1.2) _
  refine xo_2 rfl ?_
  refine xo_2 rfl ?_
  refine xm_33 (i := 4194) (q := 82) (jSrd_ok hS rd) ly65 rfl (xm_P (jSrd_ok hS rd) (by decide)) ?_
  refine xo_10 ?_
  refine xo_49 (st' := []) rfl rfl (xm_ly (jSrd_ok hS rd) ly65) rfl (Nat.le_of_ble_eq_true rfl) ?_
  refine t_X11_goRide_82 hS ?_
  refine jw_mono (jw_bind h) (fun q2 h rd3 => ?_)
  show jx_Ex _ _ _ _ [.int q2.1] (jh (jSrd S rd3) q2.2) _
  replace h := jw_some h
  exact xo_69 (h rd3)
/-- OfDifferentMindsModel.record, at ['m', 'int'] U -/
def f_X11_record_b127 (k51 : Int32 → Int32 → Int32 → Int32 → Int32 → Int32 → Int32 → jT → Option (Int32 × jT)) (x1 : Int32) (x2 : Int32) (x3 : Int32) (x4 : Int32) (x5 : Int32) (x6 : Int32) (x7 : Int32) (σ : jT) : Option (Int32 × jT) :=
  k51 x1 x2 x3 x4 x5 x6 (x7 + 1) σ
def f_X11_record_b106 (k51 : Int32 → Int32 → Int32 → Int32 → Int32 → Int32 → Int32 → jT → Option (Int32 × jT)) (x1 : Int32) (x2 : Int32) (x3 : Int32) (x4 : Int32) (x6 : Int32) (x7 : Int32) (x8 : Int32) (s0 : Int32) (σ : jT) : Option (Int32 × jT) :=
  if x2 < x8 then
    f_X11_record_b127 k51 x1 x8 x6 x7 s0 x6 x7 σ
  else
    f_X11_record_b127 k51 x1 x2 x3 x4 s0 x6 x7 σ
def f_X11_record_b51 (k39 : Int32 → Int32 → Int32 → Int32 → Int32 → Int32 → jT → Option (Int32 × jT)) : Nat → Int32 → Int32 → Int32 → Int32 → Int32 → Int32 → Int32 → jT → Option (Int32 × jT)
  | 0, _, _, _, _, _, _, _, _ => none
  | n + 1, x1, x2, x3, x4, x5, x6, x7, σ =>
    if (σ.1 4165) ≤ x7 then
      k39 x1 x2 x3 x4 x5 (x6 + 1) σ
    else
      if ¬ x6 = x7 then
        (f_X11_stepsOf x6 x7 x1 σ).bind fun q3 =>
        if q3.1 ≤ x2 then
          if ¬ q3.1 = x2 then
            f_X11_record_b106 (f_X11_record_b51 k39 n) x1 x2 x3 x4 x6 x7 q3.1 x5 q3.2
          else
            f_X11_record_b106 (f_X11_record_b51 k39 n) x1 x2 x3 x4 x6 x7 q3.1 (x5 + 1) q3.2
        else
          f_X11_record_b106 (f_X11_record_b51 k39 n) x1 x2 x3 x4 x6 x7 q3.1 1 q3.2
      else
        f_X11_record_b127 (f_X11_record_b51 k39 n) x1 x2 x3 x4 x5 x6 x7 σ
def f_X11_record_b39 : Nat → Int32 → Int32 → Int32 → Int32 → Int32 → Int32 → jT → Option (Int32 × jT)
  | 0, _, _, _, _, _, _, _ => none
  | n + 1, x1, x2, x3, x4, x5, x6, σ =>
    if (σ.1 4165) ≤ x6 then
      (f_X11_tell x3 (gs σ 4171 0)).bind fun q2 =>
      (f_X11_tell x4 q2.2).bind fun q3 =>
      (f_X11_tell x5 q3.2).bind fun q4 =>
      some (x2, q4.2)
    else
      f_X11_record_b51 (f_X11_record_b39 n) 1000 x1 x2 x3 x4 x5 x6 0 σ
def f_X11_record (x1 : Int32) (σ : jT) : Option (Int32 × jT) :=
  (f_X11_isPlace x1 (gs σ 4172 0)).bind fun q1 =>
  if ¬ q1.1 = 0 then
    if 2 ≤ (q1.2.1 4165) then
      f_X11_record_b39 1000 x1 (-1) (-1) (-1) 0 0 q1.2
    else
      some ((-2), q1.2)
  else
    some ((-1), q1.2)
theorem t_X11_record_b127 {S : jS} (hS : jMok S) {d : Nat} {Q : Option Value → jx_H → Prop} {k51 : Int32 → Int32 → Int32 → Int32 → Int32 → Int32 → Int32 → jT → Option (Int32 × jT)} (hk51 : ∀ {rd : Value} {x1 : Int32} {x2 : Int32} {x3 : Int32} {x4 : Int32} {x5 : Int32} {x6 : Int32} {x7 : Int32} {w8 : Value} {σ : jT}, jw (k51 x1 x2 x3 x4 x5 x6 x7 σ) (fun q => ∀ rd : Value, Q (some (.int q.1)) (jh (jSrd S rd) q.2)) → jx_Ex (d + 109) jm_l285 jm_b285_51 [.ref 65, .int x1, .int x2, .int x3, .int x4, .int x5, .int x6, .int x7, w8] [] (jh (jSrd S rd) σ) Q) {rd : Value} {x1 : Int32} {x2 : Int32} {x3 : Int32} {x4 : Int32} {x5 : Int32} {x6 : Int32} {x7 : Int32} {w8 : Value} {σ : jT} (h : jw (f_X11_record_b127 k51 x1 x2 x3 x4 x5 x6 x7 σ) (fun q => ∀ rd : Value, Q (some (.int q.1)) (jh (jSrd S rd) q.2))) : jx_Ex (d + 109) jm_l285 jm_b285_127 [.ref 65, .int x1, .int x2, .int x3, .int x4, .int x5, .int x6, .int x7, w8] [] (jh (jSrd S rd) σ) Q := by
  unfold f_X11_record_b127 at h
  refine xo_13 (ls' := [.ref 65, .int x1, .int x2, .int x3, .int x4, .int x5, .int x6, .int (x7 + 1), w8]) rfl rfl ?_
  refine xo_54 (t := jm_b285_51) rfl ?_
  exact hk51 h
theorem t_X11_record_b106 {S : jS} (hS : jMok S) {d : Nat} {Q : Option Value → jx_H → Prop} {k51 : Int32 → Int32 → Int32 → Int32 → Int32 → Int32 → Int32 → jT → Option (Int32 × jT)} (hk51 : ∀ {rd : Value} {x1 : Int32} {x2 : Int32} {x3 : Int32} {x4 : Int32} {x5 : Int32} {x6 : Int32} {x7 : Int32} {w8 : Value} {σ : jT}, jw (k51 x1 x2 x3 x4 x5 x6 x7 σ) (fun q => ∀ rd : Value, Q (some (.int q.1)) (jh (jSrd S rd) q.2)) → jx_Ex (d + 109) jm_l285 jm_b285_51 [.ref 65, .int x1, .int x2, .int x3, .int x4, .int x5, .int x6, .int x7, w8] [] (jh (jSrd S rd) σ) Q) {rd : Value} {x1 : Int32} {x2 : Int32} {x3 : Int32} {x4 : Int32} {x6 : Int32} {x7 : Int32} {x8 : Int32} {s0 : Int32} {w5 : Value} {σ : jT} (h : jw (f_X11_record_b106 k51 x1 x2 x3 x4 x6 x7 x8 s0 σ) (fun q => ∀ rd : Value, Q (some (.int q.1)) (jh (jSrd S rd) q.2))) : jx_Ex (d + 109) jm_l285 jm_b285_106 [.ref 65, .int x1, .int x2, .int x3, .int x4, w5, .int x6, .int x7, .int x8] [.int s0] (jh (jSrd S rd) σ) Q := by
  unfold f_X11_record_b106 at h
  refine xo_5 (ls' := [.ref 65, .int x1, .int x2, .int x3, .int x4, .int s0, .int x6, .int x7, .int x8]) rfl ?_
  refine xo_1 rfl ?_
  refine xo_0 rfl ?_
  refine xo_65 (t := jm_b285_117) rfl (fun hc1 => ?_) (fun hc1 => ?_)
  · replace h := jw_pos hc1 h
    refine xo_1 rfl ?_
    refine xo_4 (ls' := [.ref 65, .int x1, .int x8, .int x3, .int x4, .int s0, .int x6, .int x7, .int x8]) rfl ?_
    refine xo_1 rfl ?_
    refine xo_4 (ls' := [.ref 65, .int x1, .int x8, .int x6, .int x4, .int s0, .int x6, .int x7, .int x8]) rfl ?_
    refine xo_1 rfl ?_
    refine xo_5 (ls' := [.ref 65, .int x1, .int x8, .int x6, .int x7, .int s0, .int x6, .int x7, .int x8]) rfl ?_
    exact t_X11_record_b127 hS hk51 h
  · replace h := jw_neg hc1 h
    refine xo_54 (t := jm_b285_127) rfl ?_
    exact t_X11_record_b127 hS hk51 h
theorem t_X11_record_b51 {S : jS} (hS : jMok S) {d : Nat} {Q : Option Value → jx_H → Prop} {k39 : Int32 → Int32 → Int32 → Int32 → Int32 → Int32 → jT → Option (Int32 × jT)} (hk39 : ∀ {rd : Value} {x1 : Int32} {x2 : Int32} {x3 : Int32} {x4 : Int32} {x5 : Int32} {x6 : Int32} {w7 : Value} {w8 : Value} {σ : jT}, jw (k39 x1 x2 x3 x4 x5 x6 σ) (fun q => ∀ rd : Value, Q (some (.int q.1)) (jh (jSrd S rd) q.2)) → jx_Ex (d + 109) jm_l285 jm_b285_39 [.ref 65, .int x1, .int x2, .int x3, .int x4, .int x5, .int x6, w7, w8] [] (jh (jSrd S rd) σ) Q) : ∀ (n : Nat) {rd : Value} {x1 : Int32} {x2 : Int32} {x3 : Int32} {x4 : Int32} {x5 : Int32} {x6 : Int32} {x7 : Int32} {w8 : Value} {σ : jT}, jw (f_X11_record_b51 k39 n x1 x2 x3 x4 x5 x6 x7 σ) (fun q => ∀ rd : Value, Q (some (.int q.1)) (jh (jSrd S rd) q.2)) → jx_Ex (d + 109) jm_l285 jm_b285_51 [.ref 65, .int x1, .int x2, .int x3, .int x4, .int x5, .int x6, .int x7, w8] [] (jh (jSrd S rd) σ) Q := by
  intro n
  induction n with
  | zero => intro rd x1 x2 x3 x4 x5 x6 x7 w8 σ h; exact jw_none h
  | succ n ih =>
    intro rd x1 x2 x3 x4 x5 x6 x7 w8 σ h
    rw [f_X11_record_b51] at h
    refine xo_1 rfl ?_
    refine xo_2 rfl ?_
    refine xm_32 (i := 4165) (v := (σ.1 4165)) (jSrd_ok hS rd) ly65 rfl ⟨Nat.le_of_ble_eq_true rfl, Nat.le_of_ble_eq_true rfl⟩ rfl ?_
    refine xo_64 (t := jm_b285_133) rfl (fun hc1 => ?_) (fun hc1 => ?_)
    · replace h := jw_pos hc1 h
      refine xo_13 (ls' := [.ref 65, .int x1, .int x2, .int x3, .int x4, .int x5, .int (x6 + 1), .int x7, w8]) rfl rfl ?_
      refine xo_54 (t := jm_b285_39) rfl ?_
      exact hk39 h
    · replace h := jw_neg hc1 h
      refine xo_1 rfl ?_
      refine xo_1 rfl ?_
      refine xo_62 (t := jm_b285_70) rfl (fun hc2 => ?_) (fun hc2 => ?_)
      · replace h := jw_pos hc2 h
        refine xo_2 rfl ?_
        refine xo_1 rfl ?_
        refine xo_1 rfl ?_
        refine xo_0 rfl ?_
        refine xo_49 (st' := []) rfl rfl (xm_ly (jSrd_ok hS rd) ly65) rfl (Nat.le_of_ble_eq_true rfl) ?_
        refine t_X11_stepsOf hS ?_
        refine jw_mono (jw_bind h) (fun q3 h rd4 => ?_)
        show jx_Ex _ _ _ _ [.int q3.1] (jh (jSrd S rd4) q3.2) _
        refine xo_5 (ls' := [.ref 65, .int x1, .int x2, .int x3, .int x4, .int x5, .int x6, .int x7, .int q3.1]) rfl ?_
        refine xo_1 rfl ?_
        refine xo_0 rfl ?_
        refine xo_66 (t := jm_b285_91) rfl (fun hc5 => ?_) (fun hc5 => ?_)
        · replace h := jw_pos hc5 h
          refine xo_1 rfl ?_
          refine xo_0 rfl ?_
          refine xo_62 (t := jm_b285_104) rfl (fun hc6 => ?_) (fun hc6 => ?_)
          · replace h := jw_pos hc6 h
            refine xo_1 rfl ?_
            exact t_X11_record_b106 hS ih h
          · replace h := jw_neg hc6 h
            refine xo_1 rfl ?_
            refine xo_8 ?_
            refine xo_14 ?_
            refine xo_54 (t := jm_b285_106) rfl ?_
            exact t_X11_record_b106 hS ih h
        · replace h := jw_neg hc5 h
          refine xo_8 ?_
          refine xo_54 (t := jm_b285_106) rfl ?_
          exact t_X11_record_b106 hS ih h
      · replace h := jw_neg hc2 h
        refine xo_54 (t := jm_b285_127) rfl ?_
        exact t_X11_record_b127 hS ih h
theorem t_X11_record_b39 {S : jS} (hS : jMok S) {d : Nat} {Q : Option Value → jx_H → Prop} : ∀ (n : Nat) {rd : Value} {x1 : Int32} {x2 : Int32} {x3 : Int32} {x4 : Int32} {x5 : Int32} {x6 : Int32} {w7 : Value} {w8 : Value} {σ : jT}, jw (f_X11_record_b39 n x1 x2 x3 x4 x5 x6 σ) (fun q => ∀ rd : Value, Q (some (.int q.1)) (jh (jSrd S rd) q.2)) → jx_Ex (d + 109) jm_l285 jm_b285_39 [.ref 65, .int x1, .int x2, .int x3, .int x4, .int x5, .int x6, w7, w8] [] (jh (jSrd S rd) σ) Q := by
  intro n
  induction n with
  | zero => intro rd x1 x2 x3 x4 x5 x6 w7 w8 σ h; exact jw_none h
  | succ n ih =>
    intro rd x1 x2 x3 x4 x5 x6 w7 w8 σ h
    rw [f_X11_record_b39] at h
    refine xo_1 rfl ?_
    refine xo_2 rfl ?_
    refine xm_32 (i := 4165) (v := (σ.1 4165)) (jSrd_ok hS rd) ly65 rfl ⟨Nat.le_of_ble_eq_true rfl, Nat.le_of_ble_eq_true rfl⟩ rfl ?_
    refine xo_64 (t := jm_b285_139) rfl (fun hc1 => ?_) (fun hc1 => ?_)
    · replace h := jw_pos hc1 h
      refine xo_2 rfl ?_
      refine xo_8 ?_
      refine xm_34 (i := 4171) (jSrd_ok hS rd) ly65 rfl ⟨Nat.le_of_ble_eq_true rfl, Nat.le_of_ble_eq_true rfl⟩ ?_
      refine xo_2 rfl ?_
      refine xo_0 rfl ?_
      refine xo_49 (st' := []) rfl rfl (xm_ly (jSrd_ok hS rd) ly65) rfl (Nat.le_of_ble_eq_true rfl) ?_
      refine t_X11_tell hS ?_
      refine jw_mono (jw_bind h) (fun q2 h => ?_)
      show jx_Ex _ _ _ _ [] (jh (jSrd S rd) q2.2) _
      refine xo_2 rfl ?_
      refine xo_1 rfl ?_
      refine xo_49 (st' := []) rfl rfl (xm_ly (jSrd_ok hS rd) ly65) rfl (Nat.le_of_ble_eq_true rfl) ?_
      refine t_X11_tell hS ?_
      refine jw_mono (jw_bind h) (fun q3 h => ?_)
      show jx_Ex _ _ _ _ [] (jh (jSrd S rd) q3.2) _
      refine xo_2 rfl ?_
      refine xo_1 rfl ?_
      refine xo_49 (st' := []) rfl rfl (xm_ly (jSrd_ok hS rd) ly65) rfl (Nat.le_of_ble_eq_true rfl) ?_
      refine t_X11_tell hS ?_
      refine jw_mono (jw_bind h) (fun q4 h => ?_)
      show jx_Ex _ _ _ _ [] (jh (jSrd S rd) q4.2) _
      refine xo_0 rfl ?_
      replace h := jw_some h
      exact xo_69 (h rd)
    · replace h := jw_neg hc1 h
      refine xo_8 ?_
      refine xo_5 (ls' := [.ref 65, .int x1, .int x2, .int x3, .int x4, .int x5, .int x6, .int 0, w8]) rfl ?_
      exact t_X11_record_b51 hS ih 1000 h
theorem t_X11_record {S : jS} (hS : jMok S) {d : Nat} {Q : Option Value → jx_H → Prop} {rd : Value} {x1 : Int32} {σ : jT} (h : jw (f_X11_record x1 σ) (fun q => ∀ rd : Value, Q (some (.int q.1)) (jh (jSrd S rd) q.2))) : jx_Sp (d + 109) 285 [.ref 65, .int x1] (jh (jSrd S rd) σ) Q := by
  refine ⟨jm_i285, jm_at285, rfl, rfl, ?_⟩
  show jx_Ex _ jm_l285 jm_b285_0 [.ref 65, .int x1, .retAddr 0, .retAddr 0, .retAddr 0, .retAddr 0, .retAddr 0, .retAddr 0, .retAddr 0] [] _ _
  unfold f_X11_record at h
  refine xo_2 rfl ?_
  refine xo_8 ?_
  refine xm_34 (i := 4172) (jSrd_ok hS rd) ly65 rfl ⟨Nat.le_of_ble_eq_true rfl, Nat.le_of_ble_eq_true rfl⟩ ?_
  refine xo_2 rfl ?_
  refine xo_0 rfl ?_
  refine xo_49 (st' := []) rfl rfl (xm_ly (jSrd_ok hS rd) ly65) rfl (Nat.le_of_ble_eq_true rfl) ?_
  refine t_X11_isPlace hS ?_
  refine jw_mono (jw_bind h) (fun q1 h => ?_)
  show jx_Ex _ _ _ _ [.int q1.1] (jh (jSrd S rd) q1.2) _
  refine xo_56 (t := jm_b285_15) rfl (fun hc2 => ?_) (fun hc2 => ?_)
  · replace h := jw_pos hc2 h
    refine xo_2 rfl ?_
    refine xm_32 (i := 4165) (v := (q1.2.1 4165)) (jSrd_ok hS rd) ly65 rfl ⟨Nat.le_of_ble_eq_true rfl, Nat.le_of_ble_eq_true rfl⟩ rfl ?_
    refine xo_8 ?_
    refine xo_64 (t := jm_b285_26) rfl (fun hc3 => ?_) (fun hc3 => ?_)
    · replace h := jw_pos hc3 h
      refine xo_8 ?_
      refine xo_4 (ls' := [.ref 65, .int x1, .int (-1), .retAddr 0, .retAddr 0, .retAddr 0, .retAddr 0, .retAddr 0, .retAddr 0]) rfl ?_
      refine xo_8 ?_
      refine xo_4 (ls' := [.ref 65, .int x1, .int (-1), .int (-1), .retAddr 0, .retAddr 0, .retAddr 0, .retAddr 0, .retAddr 0]) rfl ?_
      refine xo_8 ?_
      refine xo_5 (ls' := [.ref 65, .int x1, .int (-1), .int (-1), .int (-1), .retAddr 0, .retAddr 0, .retAddr 0, .retAddr 0]) rfl ?_
      refine xo_8 ?_
      refine xo_5 (ls' := [.ref 65, .int x1, .int (-1), .int (-1), .int (-1), .int 0, .retAddr 0, .retAddr 0, .retAddr 0]) rfl ?_
      refine xo_8 ?_
      refine xo_5 (ls' := [.ref 65, .int x1, .int (-1), .int (-1), .int (-1), .int 0, .int 0, .retAddr 0, .retAddr 0]) rfl ?_
      exact t_X11_record_b39 hS 1000 h
    · replace h := jw_neg hc3 h
      refine xo_9 ?_
      replace h := jw_some h
      exact xo_69 (h rd)
  · replace h := jw_neg hc2 h
    refine xo_8 ?_
    replace h := jw_some h
    exact xo_69 (h rd)
/-- OfDifferentMindsModel.areThose, at ['m', 'int'] K -/
def f_X11_areThose (x1 : Int32) (σ : jT) : Option (Int32 × jT) :=
  (f_X11_in x1 0 ((1 <<< ((σ.1 4165) &&& 31)) - 1) σ).bind fun q1 =>
  if q1.1 = 0 ∨ q1.1 = 1 then
  some (q1.1, q1.2)
  else none
theorem t_X11_areThose {S : jS} (hS : jMok S) {d : Nat} {Q : Option Value → jx_H → Prop} {rd : Value} {x1 : Int32} {σ : jT} (h : jw (f_X11_areThose x1 σ) (fun q => Q (some (.int q.1)) (jh (jSrd S rd) q.2))) : jx_Sp (d + 1) 287 [.ref 65, .int x1] (jh (jSrd S rd) σ) Q := by
  refine ⟨jm_i287, jm_at287, rfl, rfl, ?_⟩
  show jx_Ex _ jm_l287 jm_b287_0 [.ref 65, .int x1] [] _ _
  unfold f_X11_areThose at h
  refine xo_0 rfl ?_
  refine xo_8 ?_
  refine xo_8 ?_
  refine xo_2 rfl ?_
  refine xm_32 (i := 4165) (v := (σ.1 4165)) (jSrd_ok hS rd) ly65 rfl ⟨Nat.le_of_ble_eq_true rfl, Nat.le_of_ble_eq_true rfl⟩ rfl ?_
  refine xo_23 ?_
  refine xo_8 ?_
  refine xo_15 ?_
  refine xo_50 (st' := []) rfl rfl rfl (Nat.le_of_ble_eq_true rfl) ?_
  refine t_X11_in hS ?_
  refine jw_mono (jw_bind h) (fun q1 h => ?_)
  show jx_Ex _ _ _ _ [.int q1.1] (jh (jSrd S rd) q1.2) _
  obtain ⟨hz2, h⟩ := jw_chk h
  replace h := jw_some h
  exact xo_70 hz2 h
/-- OfDifferentMindsModel.goMatches, at ['m', 'int', 'int', 'int', 'int', 'int'] U -/
def f_X11_goMatches_b195 (rec : Nat → List Int32 → jT → Option (Int32 × jT)) (k109 : Int32 → Int32 → Int32 → Int32 → Int32 → Int32 → jT → Option (Int32 × jT)) (x1 : Int32) (x2 : Int32) (x3 : Int32) (x4 : Int32) (x5 : Int32) (x6 : Int32) (σ : jT) : Option (Int32 × jT) :=
  k109 x1 x2 x3 x4 x5 (x6 + 1) σ
def f_X11_goMatches_b109 (rec : Nat → List Int32 → jT → Option (Int32 × jT)) : Nat → Int32 → Int32 → Int32 → Int32 → Int32 → Int32 → jT → Option (Int32 × jT)
  | 0, _, _, _, _, _, _, _ => none
  | n + 1, x1, x2, x3, x4, x5, x6, σ =>
    if (σ.1 4165) ≤ x6 then
      some (0, σ)
    else
      (f_X11_has x2 x6 σ).bind fun q2 =>
      if ¬ q2.1 = 0 then
        if jx_in x1 6 then
        if jx_in x6 6 then
        (f_X11_stepsOf x1 x6 x5 (gA (gA q2.2 86 x1.toNatClampNeg x6) 86 x6.toNatClampNeg x1)).bind fun q6 =>
        (rec 0 [(x1 + 1), (x2 &&& (((1 <<< (x1 &&& 31)) ||| (1 <<< (x6 &&& 31))) ^^^ (-1))), x3, (x4 + q6.1), x5] q6.2).bind fun q8 =>
        f_X11_goMatches_b195 rec (f_X11_goMatches_b109 rec n) x1 x2 x3 x4 x5 x6 (gA (gA q8.2 86 x1.toNatClampNeg (-1)) 86 x6.toNatClampNeg (-1))
        else none
        else none
      else
        f_X11_goMatches_b195 rec (f_X11_goMatches_b109 rec n) x1 x2 x3 x4 x5 x6 q2.2
def f_X11_goMatches_b104 (rec : Nat → List Int32 → jT → Option (Int32 × jT)) (x1 : Int32) (x2 : Int32) (x3 : Int32) (x4 : Int32) (x5 : Int32) (σ : jT) : Option (Int32 × jT) :=
  f_X11_goMatches_b109 rec 1000 x1 x2 x3 x4 x5 (x1 + 1) σ
def f_X11_goMatches_b27 (rec : Nat → List Int32 → jT → Option (Int32 × jT)) : Nat → Int32 → jT → Option (Int32 × jT)
  | 0, _, _ => none
  | n + 1, x6, σ =>
    if (σ.1 4165) ≤ x6 then
      some (0, σ)
    else
      if jx_in x6 6 then
      f_X11_goMatches_b27 rec n (x6 + 1) (gA σ 87 x6.toNatClampNeg (σ.2 86 x6.toNatClampNeg))
      else none
def f_X11_goMatches (rec : Nat → List Int32 → jT → Option (Int32 × jT)) (x1 : Int32) (x2 : Int32) (x3 : Int32) (x4 : Int32) (x5 : Int32) (σ : jT) : Option (Int32 × jT) :=
  if ¬ x1 = (σ.1 4165) then
    (f_X11_has x2 x1 σ).bind fun q2 =>
    if ¬ q2.1 = 0 then
      if x3 ≤ 0 then
        f_X11_goMatches_b104 rec x1 x2 x3 x4 x5 q2.2
      else
        (rec 0 [(x1 + 1), (x2 &&& ((1 <<< (x1 &&& 31)) ^^^ (-1))), (x3 - 1), x4, x5] q2.2).bind fun q5 =>
        f_X11_goMatches_b104 rec x1 x2 x3 x4 x5 q5.2
    else
      (rec 0 [(x1 + 1), x2, x3, x4, x5] q2.2).bind fun q7 =>
      some (0, q7.2)
  else
    if (σ.1 4201) < x4 then
      f_X11_goMatches_b27 rec 1000 0 (gs σ 4201 x4)
    else
      some (0, σ)
theorem t_X11_goMatches_b195 {S : jS} (hS : jMok S) {d : Nat} {Q : Option Value → jx_H → Prop} {rec : Nat → List Int32 → jT → Option (Int32 × jT)} (hrec_X11_goMatches : ∀ {rd : Value} {x1 : Int32} {x2 : Int32} {x3 : Int32} {x4 : Int32} {x5 : Int32} {σ : jT} {Q : Option Value → jx_H → Prop}, jw (rec 0 [x1, x2, x3, x4, x5] σ) (fun q => ∀ rd : Value, Q none (jh (jSrd S rd) q.2)) → jx_Sp (d + 108) 286 [.ref 65, .int x1, .int x2, .int x3, .int x4, .int x5] (jh (jSrd S rd) σ) Q) {k109 : Int32 → Int32 → Int32 → Int32 → Int32 → Int32 → jT → Option (Int32 × jT)} (hk109 : ∀ {rd : Value} {x1 : Int32} {x2 : Int32} {x3 : Int32} {x4 : Int32} {x5 : Int32} {x6 : Int32} {σ : jT}, jw (k109 x1 x2 x3 x4 x5 x6 σ) (fun q => ∀ rd : Value, Q none (jh (jSrd S rd) q.2)) → jx_Ex (d + 109) jm_l286 jm_b286_109 [.ref 65, .int x1, .int x2, .int x3, .int x4, .int x5, .int x6] [] (jh (jSrd S rd) σ) Q) {rd : Value} {x1 : Int32} {x2 : Int32} {x3 : Int32} {x4 : Int32} {x5 : Int32} {x6 : Int32} {σ : jT} (h : jw (f_X11_goMatches_b195 rec k109 x1 x2 x3 x4 x5 x6 σ) (fun q => ∀ rd : Value, Q none (jh (jSrd S rd) q.2))) : jx_Ex (d + 109) jm_l286 jm_b286_195 [.ref 65, .int x1, .int x2, .int x3, .int x4, .int x5, .int x6] [] (jh (jSrd S rd) σ) Q := by
  unfold f_X11_goMatches_b195 at h
  refine xo_13 (ls' := [.ref 65, .int x1, .int x2, .int x3, .int x4, .int x5, .int (x6 + 1)]) rfl rfl ?_
  refine xo_54 (t := jm_b286_109) rfl ?_
  exact hk109 h
theorem t_X11_goMatches_b109 {S : jS} (hS : jMok S) {d : Nat} {Q : Option Value → jx_H → Prop} {rec : Nat → List Int32 → jT → Option (Int32 × jT)} (hrec_X11_goMatches : ∀ {rd : Value} {x1 : Int32} {x2 : Int32} {x3 : Int32} {x4 : Int32} {x5 : Int32} {σ : jT} {Q : Option Value → jx_H → Prop}, jw (rec 0 [x1, x2, x3, x4, x5] σ) (fun q => ∀ rd : Value, Q none (jh (jSrd S rd) q.2)) → jx_Sp (d + 108) 286 [.ref 65, .int x1, .int x2, .int x3, .int x4, .int x5] (jh (jSrd S rd) σ) Q) : ∀ (n : Nat) {rd : Value} {x1 : Int32} {x2 : Int32} {x3 : Int32} {x4 : Int32} {x5 : Int32} {x6 : Int32} {σ : jT}, jw (f_X11_goMatches_b109 rec n x1 x2 x3 x4 x5 x6 σ) (fun q => ∀ rd : Value, Q none (jh (jSrd S rd) q.2)) → jx_Ex (d + 109) jm_l286 jm_b286_109 [.ref 65, .int x1, .int x2, .int x3, .int x4, .int x5, .int x6] [] (jh (jSrd S rd) σ) Q := by
  intro n
  induction n with
  | zero => intro rd x1 x2 x3 x4 x5 x6 σ h; exact jw_none h
  | succ n ih =>
    intro rd x1 x2 x3 x4 x5 x6 σ h
    rw [f_X11_goMatches_b109] at h
    refine xo_1 rfl ?_
    refine xo_2 rfl ?_
    refine xm_32 (i := 4165) (v := (σ.1 4165)) (jSrd_ok hS rd) ly65 rfl ⟨Nat.le_of_ble_eq_true rfl, Nat.le_of_ble_eq_true rfl⟩ rfl ?_
    refine xo_64 (t := jm_b286_201) rfl (fun hc1 => ?_) (fun hc1 => ?_)
    · replace h := jw_pos hc1 h
      replace h := jw_some h
      exact xo_71 (h rd)
    · replace h := jw_neg hc1 h
      refine xo_0 rfl ?_
      refine xo_1 rfl ?_
      refine xo_50 (st' := []) rfl rfl rfl (Nat.le_of_ble_eq_true rfl) ?_
      refine t_X11_has hS ?_
      refine jw_mono (jw_bind h) (fun q2 h => ?_)
      show jx_Ex _ _ _ _ [.int q2.1] (jh (jSrd S rd) q2.2) _
      refine xo_56 (t := jm_b286_130) rfl (fun hc3 => ?_) (fun hc3 => ?_)
      · replace h := jw_pos hc3 h
        refine xo_2 rfl ?_
        refine xm_33 (i := 4199) (q := 86) (jSrd_ok hS rd) ly65 rfl (xm_P (jSrd_ok hS rd) (by decide)) ?_
        refine xo_0 rfl ?_
        refine xo_1 rfl ?_
        obtain ⟨hi4, h⟩ := jw_chk h
        refine xm_41 (j := x1.toNatClampNeg) (jSrd_ok hS rd) ly86 ⟨Nat.le_of_ble_eq_true rfl, Nat.le_of_ble_eq_true rfl⟩ hi4 rfl ?_
        refine xo_2 rfl ?_
        refine xm_33 (i := 4199) (q := 86) (jSrd_ok hS rd) ly65 rfl (xm_P (jSrd_ok hS rd) (by decide)) ?_
        refine xo_1 rfl ?_
        refine xo_0 rfl ?_
        obtain ⟨hi5, h⟩ := jw_chk h
        refine xm_41 (j := x6.toNatClampNeg) (jSrd_ok hS rd) ly86 ⟨Nat.le_of_ble_eq_true rfl, Nat.le_of_ble_eq_true rfl⟩ hi5 rfl ?_
        refine xo_2 rfl ?_
        refine xo_0 rfl ?_
        refine xo_8 ?_
        refine xo_14 ?_
        refine xo_0 rfl ?_
        refine xo_8 ?_
        refine xo_0 rfl ?_
        refine xo_23 ?_
        refine xo_8 ?_
        refine xo_1 rfl ?_
        refine xo_23 ?_
        refine xo_21 ?_
        refine xo_8 ?_
        refine xo_22 ?_
        refine xo_20 ?_
        refine xo_0 rfl ?_
        refine xo_1 rfl ?_
        refine xo_2 rfl ?_
        refine xo_0 rfl ?_
        refine xo_1 rfl ?_
        refine xo_1 rfl ?_
        refine xo_49 (st' := [.int x4, .int x3, .int (x2 &&& (((1 <<< (x1 &&& 31)) ||| (1 <<< (x6 &&& 31))) ^^^ (-1))), .int (x1 + 1), .ref 65]) rfl rfl (xm_ly (jSrd_ok hS rd) ly65) rfl (Nat.le_of_ble_eq_true rfl) ?_
        refine t_X11_stepsOf hS ?_
        refine jw_mono (jw_bind h) (fun q6 h rd7 => ?_)
        show jx_Ex _ _ _ _ [.int q6.1, .int x4, .int x3, .int (x2 &&& (((1 <<< (x1 &&& 31)) ||| (1 <<< (x6 &&& 31))) ^^^ (-1))), .int (x1 + 1), .ref 65] (jh (jSrd S rd7) q6.2) _
        refine xo_14 ?_
        refine xo_1 rfl ?_
        refine xo_49 (st' := []) rfl rfl (xm_ly (jSrd_ok hS rd7) ly65) rfl (Nat.le_of_ble_eq_true rfl) ?_
        refine hrec_X11_goMatches ?_
        refine jw_mono (jw_bind h) (fun q8 h rd9 => ?_)
        show jx_Ex _ _ _ _ [] (jh (jSrd S rd9) q8.2) _
        refine xo_2 rfl ?_
        refine xm_33 (i := 4199) (q := 86) (jSrd_ok hS rd9) ly65 rfl (xm_P (jSrd_ok hS rd9) (by decide)) ?_
        refine xo_0 rfl ?_
        refine xo_8 ?_
        refine xm_41 (j := x1.toNatClampNeg) (jSrd_ok hS rd9) ly86 ⟨Nat.le_of_ble_eq_true rfl, Nat.le_of_ble_eq_true rfl⟩ hi4 rfl ?_
        refine xo_2 rfl ?_
        refine xm_33 (i := 4199) (q := 86) (jSrd_ok hS rd9) ly65 rfl (xm_P (jSrd_ok hS rd9) (by decide)) ?_
        refine xo_1 rfl ?_
        refine xo_8 ?_
        refine xm_41 (j := x6.toNatClampNeg) (jSrd_ok hS rd9) ly86 ⟨Nat.le_of_ble_eq_true rfl, Nat.le_of_ble_eq_true rfl⟩ hi5 rfl ?_
        exact t_X11_goMatches_b195 hS hrec_X11_goMatches ih h
      · replace h := jw_neg hc3 h
        refine xo_54 (t := jm_b286_195) rfl ?_
        exact t_X11_goMatches_b195 hS hrec_X11_goMatches ih h
theorem t_X11_goMatches_b104 {S : jS} (hS : jMok S) {d : Nat} {Q : Option Value → jx_H → Prop} {rec : Nat → List Int32 → jT → Option (Int32 × jT)} (hrec_X11_goMatches : ∀ {rd : Value} {x1 : Int32} {x2 : Int32} {x3 : Int32} {x4 : Int32} {x5 : Int32} {σ : jT} {Q : Option Value → jx_H → Prop}, jw (rec 0 [x1, x2, x3, x4, x5] σ) (fun q => ∀ rd : Value, Q none (jh (jSrd S rd) q.2)) → jx_Sp (d + 108) 286 [.ref 65, .int x1, .int x2, .int x3, .int x4, .int x5] (jh (jSrd S rd) σ) Q) {rd : Value} {x1 : Int32} {x2 : Int32} {x3 : Int32} {x4 : Int32} {x5 : Int32} {w6 : Value} {σ : jT} (h : jw (f_X11_goMatches_b104 rec x1 x2 x3 x4 x5 σ) (fun q => ∀ rd : Value, Q none (jh (jSrd S rd) q.2))) : jx_Ex (d + 109) jm_l286 jm_b286_104 [.ref 65, .int x1, .int x2, .int x3, .int x4, .int x5, w6] [] (jh (jSrd S rd) σ) Q := by
  unfold f_X11_goMatches_b104 at h
  refine xo_0 rfl ?_
  refine xo_8 ?_
  refine xo_14 ?_
  refine xo_5 (ls' := [.ref 65, .int x1, .int x2, .int x3, .int x4, .int x5, .int (x1 + 1)]) rfl ?_
  exact t_X11_goMatches_b109 hS hrec_X11_goMatches 1000 h
theorem t_X11_goMatches_b27 {S : jS} (hS : jMok S) {d : Nat} {Q : Option Value → jx_H → Prop} {rec : Nat → List Int32 → jT → Option (Int32 × jT)} (hrec_X11_goMatches : ∀ {rd : Value} {x1 : Int32} {x2 : Int32} {x3 : Int32} {x4 : Int32} {x5 : Int32} {σ : jT} {Q : Option Value → jx_H → Prop}, jw (rec 0 [x1, x2, x3, x4, x5] σ) (fun q => ∀ rd : Value, Q none (jh (jSrd S rd) q.2)) → jx_Sp (d + 108) 286 [.ref 65, .int x1, .int x2, .int x3, .int x4, .int x5] (jh (jSrd S rd) σ) Q) : ∀ (n : Nat) {rd : Value} {x6 : Int32} {w1 : Value} {w2 : Value} {w3 : Value} {w4 : Value} {w5 : Value} {σ : jT}, jw (f_X11_goMatches_b27 rec n x6 σ) (fun q => ∀ rd : Value, Q none (jh (jSrd S rd) q.2)) → jx_Ex (d + 109) jm_l286 jm_b286_27 [.ref 65, w1, w2, w3, w4, w5, .int x6] [] (jh (jSrd S rd) σ) Q := by
  intro n
  induction n with
  | zero => intro rd x6 w1 w2 w3 w4 w5 σ h; exact jw_none h
  | succ n ih =>
    intro rd x6 w1 w2 w3 w4 w5 σ h
    rw [f_X11_goMatches_b27] at h
    refine xo_1 rfl ?_
    refine xo_2 rfl ?_
    refine xm_32 (i := 4165) (v := (σ.1 4165)) (jSrd_ok hS rd) ly65 rfl ⟨Nat.le_of_ble_eq_true rfl, Nat.le_of_ble_eq_true rfl⟩ rfl ?_
    refine xo_64 (t := jm_b286_56) rfl (fun hc1 => ?_) (fun hc1 => ?_)
    · replace h := jw_pos hc1 h
      replace h := jw_some h
      exact xo_71 (h rd)
    · replace h := jw_neg hc1 h
      refine xo_2 rfl ?_
      refine xm_33 (i := 4200) (q := 87) (jSrd_ok hS rd) ly65 rfl (xm_P (jSrd_ok hS rd) (by decide)) ?_
      refine xo_1 rfl ?_
      refine xo_2 rfl ?_
      refine xm_33 (i := 4199) (q := 86) (jSrd_ok hS rd) ly65 rfl (xm_P (jSrd_ok hS rd) (by decide)) ?_
      refine xo_1 rfl ?_
      obtain ⟨hi2, h⟩ := jw_chk h
      refine xm_38 (j := x6.toNatClampNeg) (v := (σ.2 86 x6.toNatClampNeg)) (jSrd_ok hS rd) ly86 ⟨Nat.le_of_ble_eq_true rfl, Nat.le_of_ble_eq_true rfl⟩ hi2 rfl rfl ?_
      refine xm_41 (j := x6.toNatClampNeg) (jSrd_ok hS rd) ly87 ⟨Nat.le_of_ble_eq_true rfl, Nat.le_of_ble_eq_true rfl⟩ hi2 rfl ?_
      refine xo_13 (ls' := [.ref 65, w1, w2, w3, w4, w5, .int (x6 + 1)]) rfl rfl ?_
      refine xo_54 (t := jm_b286_27) rfl ?_
      exact ih h
theorem t_X11_goMatches {S : jS} (hS : jMok S) {d : Nat} {Q : Option Value → jx_H → Prop} {rd : Value} {rec : Nat → List Int32 → jT → Option (Int32 × jT)} (hrec_X11_goMatches : ∀ {rd : Value} {x1 : Int32} {x2 : Int32} {x3 : Int32} {x4 : Int32} {x5 : Int32} {σ : jT} {Q : Option Value → jx_H → Prop}, jw (rec 0 [x1, x2, x3, x4, x5] σ) (fun q => ∀ rd : Value, Q none (jh (jSrd S rd) q.2)) → jx_Sp (d + 108) 286 [.ref 65, .int x1, .int x2, .int x3, .int x4, .int x5] (jh (jSrd S rd) σ) Q) {x1 : Int32} {x2 : Int32} {x3 : Int32} {x4 : Int32} {x5 : Int32} {σ : jT} (h : jw (f_X11_goMatches rec x1 x2 x3 x4 x5 σ) (fun q => ∀ rd : Value, Q none (jh (jSrd S rd) q.2))) : jx_Sp (d + 109) 286 [.ref 65, .int x1, .int x2, .int x3, .int x4, .int x5] (jh (jSrd S rd) σ) Q := by
  refine ⟨jm_i286, jm_at286, rfl, rfl, ?_⟩
  show jx_Ex _ jm_l286 jm_b286_0 [.ref 65, .int x1, .int x2, .int x3, .int x4, .int x5, .retAddr 0] [] _ _
  unfold f_X11_goMatches at h
  refine xo_0 rfl ?_
  refine xo_2 rfl ?_
  refine xm_32 (i := 4165) (v := (σ.1 4165)) (jSrd_ok hS rd) ly65 rfl ⟨Nat.le_of_ble_eq_true rfl, Nat.le_of_ble_eq_true rfl⟩ rfl ?_
  refine xo_62 (t := jm_b286_57) rfl (fun hc1 => ?_) (fun hc1 => ?_)
  · replace h := jw_pos hc1 h
    refine xo_0 rfl ?_
    refine xo_0 rfl ?_
    refine xo_50 (st' := []) rfl rfl rfl (Nat.le_of_ble_eq_true rfl) ?_
    refine t_X11_has hS ?_
    refine jw_mono (jw_bind h) (fun q2 h => ?_)
    show jx_Ex _ _ _ _ [.int q2.1] (jh (jSrd S rd) q2.2) _
    refine xo_56 (t := jm_b286_79) rfl (fun hc3 => ?_) (fun hc3 => ?_)
    · replace h := jw_pos hc3 h
      refine xo_0 rfl ?_
      refine xo_60 (t := jm_b286_104) rfl (fun hc4 => ?_) (fun hc4 => ?_)
      · replace h := jw_pos hc4 h
        exact t_X11_goMatches_b104 hS hrec_X11_goMatches h
      · replace h := jw_neg hc4 h
        refine xo_2 rfl ?_
        refine xo_0 rfl ?_
        refine xo_8 ?_
        refine xo_14 ?_
        refine xo_0 rfl ?_
        refine xo_8 ?_
        refine xo_0 rfl ?_
        refine xo_23 ?_
        refine xo_8 ?_
        refine xo_22 ?_
        refine xo_20 ?_
        refine xo_0 rfl ?_
        refine xo_8 ?_
        refine xo_15 ?_
        refine xo_1 rfl ?_
        refine xo_1 rfl ?_
        refine xo_49 (st' := []) rfl rfl (xm_ly (jSrd_ok hS rd) ly65) rfl (Nat.le_of_ble_eq_true rfl) ?_
        refine hrec_X11_goMatches ?_
        refine jw_mono (jw_bind h) (fun q5 h rd6 => ?_)
        show jx_Ex _ _ _ _ [] (jh (jSrd S rd6) q5.2) _
        exact t_X11_goMatches_b104 hS hrec_X11_goMatches h
    · replace h := jw_neg hc3 h
      refine xo_2 rfl ?_
      refine xo_0 rfl ?_
      refine xo_8 ?_
      refine xo_14 ?_
      refine xo_0 rfl ?_
      refine xo_0 rfl ?_
      refine xo_1 rfl ?_
      refine xo_1 rfl ?_
      refine xo_49 (st' := []) rfl rfl (xm_ly (jSrd_ok hS rd) ly65) rfl (Nat.le_of_ble_eq_true rfl) ?_
      refine hrec_X11_goMatches ?_
      refine jw_mono (jw_bind h) (fun q7 h rd8 => ?_)
      show jx_Ex _ _ _ _ [] (jh (jSrd S rd8) q7.2) _
      replace h := jw_some h
      exact xo_71 (h rd8)
  · replace h := jw_neg hc1 h
    refine xo_1 rfl ?_
    refine xo_2 rfl ?_
    refine xm_32 (i := 4201) (v := (σ.1 4201)) (jSrd_ok hS rd) ly65 rfl ⟨Nat.le_of_ble_eq_true rfl, Nat.le_of_ble_eq_true rfl⟩ rfl ?_
    refine xo_65 (t := jm_b286_18) rfl (fun hc9 => ?_) (fun hc9 => ?_)
    · replace h := jw_pos hc9 h
      refine xo_2 rfl ?_
      refine xo_1 rfl ?_
      refine xm_34 (i := 4201) (jSrd_ok hS rd) ly65 rfl ⟨Nat.le_of_ble_eq_true rfl, Nat.le_of_ble_eq_true rfl⟩ ?_
      refine xo_8 ?_
      refine xo_5 (ls' := [.ref 65, .int x1, .int x2, .int x3, .int x4, .int x5, .int 0]) rfl ?_
      exact t_X11_goMatches_b27 hS hrec_X11_goMatches 1000 h
    · replace h := jw_neg hc9 h
      replace h := jw_some h
      exact xo_71 (h rd)
def f_rec4 : Nat → Nat → List Int32 → jT → Option (Int32 × jT)
  | 0, _, _, _ => none
  | n + 1, 0, [x1, x2, x3, x4, x5], σ => f_X11_goMatches (f_rec4 n) x1 x2 x3 x4 x5 σ
  | _ + 1, _, _, _ => none
theorem t_rec4 {S : jS} (hS : jMok S) : ∀ (n : Nat), (∀ {rd : Value} {x1 : Int32} {x2 : Int32} {x3 : Int32} {x4 : Int32} {x5 : Int32} {σ : jT} {Q : Option Value → jx_H → Prop}, jw (f_rec4 n 0 [x1, x2, x3, x4, x5] σ) (fun q => ∀ rd : Value, Q none (jh (jSrd S rd) q.2)) → jx_Sp (n + 108) 286 [.ref 65, .int x1, .int x2, .int x3, .int x4, .int x5] (jh (jSrd S rd) σ) Q) := by
  intro n
  induction n with
  | zero => exact fun h => jw_none h
  | succ n ih =>
    have hr0 := @ih
    have g0 : (∀ {rd : Value} {x1 : Int32} {x2 : Int32} {x3 : Int32} {x4 : Int32} {x5 : Int32} {σ : jT} {Q : Option Value → jx_H → Prop}, jw (f_rec4 (n + 1) 0 [x1, x2, x3, x4, x5] σ) (fun q => ∀ rd : Value, Q none (jh (jSrd S rd) q.2)) → jx_Sp (n + 1 + 108) 286 [.ref 65, .int x1, .int x2, .int x3, .int x4, .int x5] (jh (jSrd S rd) σ) Q) := by
      intro rd x1 x2 x3 x4 x5 σ Q h
      rw [show n + 1 + 108 = n + 109 by omega]
      exact t_X11_goMatches hS hr0 h
    exact @g0
theorem tr_X11_goMatches {S : jS} (hS : jMok S) {d : Nat} {rd : Value} {x1 : Int32} {x2 : Int32} {x3 : Int32} {x4 : Int32} {x5 : Int32} {σ : jT} {Q : Option Value → jx_H → Prop} (h : jw (f_rec4 100 0 [x1, x2, x3, x4, x5] σ) (fun q => ∀ rd : Value, Q none (jh (jSrd S rd) q.2))) : jx_Sp (d + 208) 286 [.ref 65, .int x1, .int x2, .int x3, .int x4, .int x5] (jh (jSrd S rd) σ) Q := jx_Sp.mono (by omega) ((t_rec4 hS 100) h)
/-- OfDifferentMindsModel.matches, at ['m', 'int', 'int'] U -/
def f_X11_matches_b70 : Nat → Int32 → jT → Option (Int32 × jT)
  | 0, _, _ => none
  | n + 1, x3, σ =>
    if (σ.1 4165) ≤ x3 then
      some ((σ.1 4201), σ)
    else
      if jx_in x3 6 then
      (f_X11_tell (σ.2 87 x3.toNatClampNeg) σ).bind fun q3 =>
      f_X11_matches_b70 n (x3 + 1) q3.2
      else none
def f_X11_matches_b25 : Nat → Int32 → Int32 → Int32 → jT → Option (Int32 × jT)
  | 0, _, _, _, _ => none
  | n + 1, x1, x2, x3, σ =>
    if 6 ≤ x3 then
      (f_J6_bitCount_0f7a4 x1 (gs σ 4201 (-1))).bind fun q2 =>
      (f_rec4 100 0 [0, x1, (q2.1 - q2.1 / 2 * 2), 0, x2] (gs σ 4201 (-1))).bind fun q3 =>
      f_X11_matches_b70 1000 0 (gs q3.2 4171 0)
    else
      if jx_in x3 6 then
      f_X11_matches_b25 n x1 x2 (x3 + 1) (gA σ 86 x3.toNatClampNeg (-1))
      else none
def f_X11_matches (x1 : Int32) (x2 : Int32) (σ : jT) : Option (Int32 × jT) :=
  (f_X11_areThose x1 (gs σ 4172 0)).bind fun q1 =>
  if q1.1 = 0 then
    some ((-1), q1.2)
  else
    (f_X11_isPlace x2 q1.2).bind fun q3 =>
    if ¬ q3.1 = 0 then
      f_X11_matches_b25 1000 x1 x2 0 q3.2
    else
      some ((-1), q3.2)
theorem t_X11_matches_b70 {S : jS} (hS : jMok S) {d : Nat} {Q : Option Value → jx_H → Prop} : ∀ (n : Nat) {rd : Value} {x3 : Int32} {w1 : Value} {w2 : Value} {σ : jT}, jw (f_X11_matches_b70 n x3 σ) (fun q => ∀ rd : Value, Q (some (.int q.1)) (jh (jSrd S rd) q.2)) → jx_Ex (d + 209) jm_l288 jm_b288_70 [.ref 65, w1, w2, .int x3] [] (jh (jSrd S rd) σ) Q := by
  intro n
  induction n with
  | zero => intro rd x3 w1 w2 σ h; exact jw_none h
  | succ n ih =>
    intro rd x3 w1 w2 σ h
    rw [f_X11_matches_b70] at h
    refine xo_0 rfl ?_
    refine xo_2 rfl ?_
    refine xm_32 (i := 4165) (v := (σ.1 4165)) (jSrd_ok hS rd) ly65 rfl ⟨Nat.le_of_ble_eq_true rfl, Nat.le_of_ble_eq_true rfl⟩ rfl ?_
    refine xo_64 (t := jm_b288_94) rfl (fun hc1 => ?_) (fun hc1 => ?_)
    · replace h := jw_pos hc1 h
      refine xo_2 rfl ?_
      refine xm_32 (i := 4201) (v := (σ.1 4201)) (jSrd_ok hS rd) ly65 rfl ⟨Nat.le_of_ble_eq_true rfl, Nat.le_of_ble_eq_true rfl⟩ rfl ?_
      replace h := jw_some h
      exact xo_69 (h rd)
    · replace h := jw_neg hc1 h
      refine xo_2 rfl ?_
      refine xo_2 rfl ?_
      refine xm_33 (i := 4200) (q := 87) (jSrd_ok hS rd) ly65 rfl (xm_P (jSrd_ok hS rd) (by decide)) ?_
      refine xo_0 rfl ?_
      obtain ⟨hi2, h⟩ := jw_chk h
      refine xm_38 (j := x3.toNatClampNeg) (v := (σ.2 87 x3.toNatClampNeg)) (jSrd_ok hS rd) ly87 ⟨Nat.le_of_ble_eq_true rfl, Nat.le_of_ble_eq_true rfl⟩ hi2 rfl rfl ?_
      refine xo_49 (st' := []) rfl rfl (xm_ly (jSrd_ok hS rd) ly65) rfl (Nat.le_of_ble_eq_true rfl) ?_
      refine t_X11_tell hS ?_
      refine jw_mono (jw_bind h) (fun q3 h => ?_)
      show jx_Ex _ _ _ _ [] (jh (jSrd S rd) q3.2) _
      refine xo_13 (ls' := [.ref 65, w1, w2, .int (x3 + 1)]) rfl rfl ?_
      refine xo_54 (t := jm_b288_70) rfl ?_
      exact ih h
theorem t_X11_matches_b25 {S : jS} (hS : jMok S) {d : Nat} {Q : Option Value → jx_H → Prop} : ∀ (n : Nat) {rd : Value} {x1 : Int32} {x2 : Int32} {x3 : Int32} {σ : jT}, jw (f_X11_matches_b25 n x1 x2 x3 σ) (fun q => ∀ rd : Value, Q (some (.int q.1)) (jh (jSrd S rd) q.2)) → jx_Ex (d + 209) jm_l288 jm_b288_25 [.ref 65, .int x1, .int x2, .int x3] [] (jh (jSrd S rd) σ) Q := by
  intro n
  induction n with
  | zero => intro rd x1 x2 x3 σ h; exact jw_none h
  | succ n ih =>
    intro rd x1 x2 x3 σ h
    rw [f_X11_matches_b25] at h
    refine xo_0 rfl ?_
    refine xo_9 ?_
    refine xo_64 (t := jm_b288_44) rfl (fun hc1 => ?_) (fun hc1 => ?_)
    · replace h := jw_pos hc1 h
      refine xo_2 rfl ?_
      refine xo_8 ?_
      refine xm_34 (i := 4201) (jSrd_ok hS rd) ly65 rfl ⟨Nat.le_of_ble_eq_true rfl, Nat.le_of_ble_eq_true rfl⟩ ?_
      refine xo_2 rfl ?_
      refine xo_8 ?_
      refine xo_0 rfl ?_
      refine xo_0 rfl ?_
      refine xo_50 (st' := [.int x1, .int 0, .ref 65]) rfl rfl rfl (Nat.le_of_ble_eq_true rfl) ?_
      refine t_J6_bitCount_0f7a4 (S := S) (σ := (gs σ 4201 (-1))) ?_
      refine jw_mono (jw_bind h) (fun q2 h => ?_)
      show jx_Ex _ _ _ _ [.int q2.1, .int x1, .int 0, .ref 65] (jh (jSrd S rd) (gs σ 4201 (-1))) _
      refine xo_8 ?_
      refine xo_18 (by decide) ?_
      refine xo_8 ?_
      refine xo_0 rfl ?_
      refine xo_49 (st' := []) rfl rfl (xm_ly (jSrd_ok hS rd) ly65) rfl (Nat.le_of_ble_eq_true rfl) ?_
      refine tr_X11_goMatches hS ?_
      refine jw_mono (jw_bind h) (fun q3 h rd4 => ?_)
      show jx_Ex _ _ _ _ [] (jh (jSrd S rd4) q3.2) _
      refine xo_2 rfl ?_
      refine xo_8 ?_
      refine xm_34 (i := 4171) (jSrd_ok hS rd4) ly65 rfl ⟨Nat.le_of_ble_eq_true rfl, Nat.le_of_ble_eq_true rfl⟩ ?_
      refine xo_8 ?_
      refine xo_4 (ls' := [.ref 65, .int x1, .int x2, .int 0]) rfl ?_
      exact t_X11_matches_b70 hS 1000 h
    · replace h := jw_neg hc1 h
      refine xo_2 rfl ?_
      refine xm_33 (i := 4199) (q := 86) (jSrd_ok hS rd) ly65 rfl (xm_P (jSrd_ok hS rd) (by decide)) ?_
      refine xo_0 rfl ?_
      refine xo_8 ?_
      obtain ⟨hi5, h⟩ := jw_chk h
      refine xm_41 (j := x3.toNatClampNeg) (jSrd_ok hS rd) ly86 ⟨Nat.le_of_ble_eq_true rfl, Nat.le_of_ble_eq_true rfl⟩ hi5 rfl ?_
      refine xo_13 (ls' := [.ref 65, .int x1, .int x2, .int (x3 + 1)]) rfl rfl ?_
      refine xo_54 (t := jm_b288_25) rfl ?_
      exact ih h
theorem t_X11_matches {S : jS} (hS : jMok S) {d : Nat} {Q : Option Value → jx_H → Prop} {rd : Value} {x1 : Int32} {x2 : Int32} {σ : jT} (h : jw (f_X11_matches x1 x2 σ) (fun q => ∀ rd : Value, Q (some (.int q.1)) (jh (jSrd S rd) q.2))) : jx_Sp (d + 209) 288 [.ref 65, .int x1, .int x2] (jh (jSrd S rd) σ) Q := by
  refine ⟨jm_i288, jm_at288, rfl, rfl, ?_⟩
  show jx_Ex _ jm_l288 jm_b288_0 [.ref 65, .int x1, .int x2, .retAddr 0] [] _ _
  unfold f_X11_matches at h
  refine xo_2 rfl ?_
  refine xo_8 ?_
  refine xm_34 (i := 4172) (jSrd_ok hS rd) ly65 rfl ⟨Nat.le_of_ble_eq_true rfl, Nat.le_of_ble_eq_true rfl⟩ ?_
  refine xo_2 rfl ?_
  refine xo_0 rfl ?_
  refine xo_49 (st' := []) rfl rfl (xm_ly (jSrd_ok hS rd) ly65) rfl (Nat.le_of_ble_eq_true rfl) ?_
  refine t_X11_areThose hS ?_
  refine jw_mono (jw_bind h) (fun q1 h => ?_)
  show jx_Ex _ _ _ _ [.int q1.1] (jh (jSrd S rd) q1.2) _
  refine xo_55 (t := jm_b288_21) rfl (fun hc2 => ?_) (fun hc2 => ?_)
  · replace h := jw_pos hc2 h
    refine xo_8 ?_
    replace h := jw_some h
    exact xo_69 (h rd)
  · replace h := jw_neg hc2 h
    refine xo_2 rfl ?_
    refine xo_0 rfl ?_
    refine xo_49 (st' := []) rfl rfl (xm_ly (jSrd_ok hS rd) ly65) rfl (Nat.le_of_ble_eq_true rfl) ?_
    refine t_X11_isPlace hS ?_
    refine jw_mono (jw_bind h) (fun q3 h => ?_)
    show jx_Ex _ _ _ _ [.int q3.1] (jh (jSrd S rd) q3.2) _
    refine xo_56 (t := jm_b288_23) rfl (fun hc4 => ?_) (fun hc4 => ?_)
    · replace h := jw_pos hc4 h
      refine xo_8 ?_
      refine xo_4 (ls' := [.ref 65, .int x1, .int x2, .int 0]) rfl ?_
      exact t_X11_matches_b25 hS 1000 h
    · replace h := jw_neg hc4 h
      refine xo_8 ?_
      replace h := jw_some h
      exact xo_69 (h rd)
/-- OfDifferentMindsModel.partner, at ['m', 'int', 'int'] U -/
def f_X11_partner_b77 (k32 : Int32 → Int32 → Int32 → Int32 → Int32 → jT → Option (Int32 × jT)) (x1 : Int32) (x2 : Int32) (x3 : Int32) (x4 : Int32) (x5 : Int32) (σ : jT) : Option (Int32 × jT) :=
  k32 x1 x2 x3 x4 (x5 + 1) σ
def f_X11_partner_b32 : Nat → Int32 → Int32 → Int32 → Int32 → Int32 → jT → Option (Int32 × jT)
  | 0, _, _, _, _, _, _ => none
  | n + 1, x1, x2, x3, x4, x5, σ =>
    if (σ.1 4165) ≤ x5 then
      if 0 ≤ x3 then
        (f_X11_tell x4 (gs σ 4171 0)).bind fun q3 =>
        some (x3, q3.2)
      else
        some ((-2), σ)
    else
      if ¬ x5 = x1 then
        (f_X11_stepsOf x1 x5 x2 σ).bind fun q5 =>
        if x4 < q5.1 then
          f_X11_partner_b77 (f_X11_partner_b32 n) x1 x2 x5 q5.1 x5 q5.2
        else
          f_X11_partner_b77 (f_X11_partner_b32 n) x1 x2 x3 x4 x5 q5.2
      else
        f_X11_partner_b77 (f_X11_partner_b32 n) x1 x2 x3 x4 x5 σ
def f_X11_partner (x1 : Int32) (x2 : Int32) (σ : jT) : Option (Int32 × jT) :=
  (f_X11_isRider x1 (gs σ 4172 0)).bind fun q1 =>
  if q1.1 = 0 then
    some ((-1), q1.2)
  else
    (f_X11_isPlace x2 q1.2).bind fun q3 =>
    if ¬ q3.1 = 0 then
      f_X11_partner_b32 1000 x1 x2 (-2) (-1) 0 q3.2
    else
      some ((-1), q3.2)
theorem t_X11_partner_b77 {S : jS} (hS : jMok S) {d : Nat} {Q : Option Value → jx_H → Prop} {k32 : Int32 → Int32 → Int32 → Int32 → Int32 → jT → Option (Int32 × jT)} (hk32 : ∀ {rd : Value} {x1 : Int32} {x2 : Int32} {x3 : Int32} {x4 : Int32} {x5 : Int32} {w6 : Value} {σ : jT}, jw (k32 x1 x2 x3 x4 x5 σ) (fun q => ∀ rd : Value, Q (some (.int q.1)) (jh (jSrd S rd) q.2)) → jx_Ex (d + 109) jm_l289 jm_b289_32 [.ref 65, .int x1, .int x2, .int x3, .int x4, .int x5, w6] [] (jh (jSrd S rd) σ) Q) {rd : Value} {x1 : Int32} {x2 : Int32} {x3 : Int32} {x4 : Int32} {x5 : Int32} {w6 : Value} {σ : jT} (h : jw (f_X11_partner_b77 k32 x1 x2 x3 x4 x5 σ) (fun q => ∀ rd : Value, Q (some (.int q.1)) (jh (jSrd S rd) q.2))) : jx_Ex (d + 109) jm_l289 jm_b289_77 [.ref 65, .int x1, .int x2, .int x3, .int x4, .int x5, w6] [] (jh (jSrd S rd) σ) Q := by
  unfold f_X11_partner_b77 at h
  refine xo_13 (ls' := [.ref 65, .int x1, .int x2, .int x3, .int x4, .int (x5 + 1), w6]) rfl rfl ?_
  refine xo_54 (t := jm_b289_32) rfl ?_
  exact hk32 h
theorem t_X11_partner_b32 {S : jS} (hS : jMok S) {d : Nat} {Q : Option Value → jx_H → Prop} : ∀ (n : Nat) {rd : Value} {x1 : Int32} {x2 : Int32} {x3 : Int32} {x4 : Int32} {x5 : Int32} {w6 : Value} {σ : jT}, jw (f_X11_partner_b32 n x1 x2 x3 x4 x5 σ) (fun q => ∀ rd : Value, Q (some (.int q.1)) (jh (jSrd S rd) q.2)) → jx_Ex (d + 109) jm_l289 jm_b289_32 [.ref 65, .int x1, .int x2, .int x3, .int x4, .int x5, w6] [] (jh (jSrd S rd) σ) Q := by
  intro n
  induction n with
  | zero => intro rd x1 x2 x3 x4 x5 w6 σ h; exact jw_none h
  | succ n ih =>
    intro rd x1 x2 x3 x4 x5 w6 σ h
    rw [f_X11_partner_b32] at h
    refine xo_1 rfl ?_
    refine xo_2 rfl ?_
    refine xm_32 (i := 4165) (v := (σ.1 4165)) (jSrd_ok hS rd) ly65 rfl ⟨Nat.le_of_ble_eq_true rfl, Nat.le_of_ble_eq_true rfl⟩ rfl ?_
    refine xo_64 (t := jm_b289_83) rfl (fun hc1 => ?_) (fun hc1 => ?_)
    · replace h := jw_pos hc1 h
      refine xo_0 rfl ?_
      refine xo_58 (t := jm_b289_90) rfl (fun hc2 => ?_) (fun hc2 => ?_)
      · replace h := jw_pos hc2 h
        refine xo_2 rfl ?_
        refine xo_8 ?_
        refine xm_34 (i := 4171) (jSrd_ok hS rd) ly65 rfl ⟨Nat.le_of_ble_eq_true rfl, Nat.le_of_ble_eq_true rfl⟩ ?_
        refine xo_2 rfl ?_
        refine xo_1 rfl ?_
        refine xo_49 (st' := []) rfl rfl (xm_ly (jSrd_ok hS rd) ly65) rfl (Nat.le_of_ble_eq_true rfl) ?_
        refine t_X11_tell hS ?_
        refine jw_mono (jw_bind h) (fun q3 h => ?_)
        show jx_Ex _ _ _ _ [] (jh (jSrd S rd) q3.2) _
        refine xo_0 rfl ?_
        replace h := jw_some h
        exact xo_69 (h rd)
      · replace h := jw_neg hc2 h
        refine xo_9 ?_
        replace h := jw_some h
        exact xo_69 (h rd)
    · replace h := jw_neg hc1 h
      refine xo_1 rfl ?_
      refine xo_0 rfl ?_
      refine xo_62 (t := jm_b289_50) rfl (fun hc4 => ?_) (fun hc4 => ?_)
      · replace h := jw_pos hc4 h
        refine xo_2 rfl ?_
        refine xo_0 rfl ?_
        refine xo_1 rfl ?_
        refine xo_0 rfl ?_
        refine xo_49 (st' := []) rfl rfl (xm_ly (jSrd_ok hS rd) ly65) rfl (Nat.le_of_ble_eq_true rfl) ?_
        refine t_X11_stepsOf hS ?_
        refine jw_mono (jw_bind h) (fun q5 h rd6 => ?_)
        show jx_Ex _ _ _ _ [.int q5.1] (jh (jSrd S rd6) q5.2) _
        refine xo_5 (ls' := [.ref 65, .int x1, .int x2, .int x3, .int x4, .int x5, .int q5.1]) rfl ?_
        refine xo_1 rfl ?_
        refine xo_1 rfl ?_
        refine xo_65 (t := jm_b289_70) rfl (fun hc7 => ?_) (fun hc7 => ?_)
        · replace h := jw_pos hc7 h
          refine xo_1 rfl ?_
          refine xo_4 (ls' := [.ref 65, .int x1, .int x2, .int x5, .int x4, .int x5, .int q5.1]) rfl ?_
          refine xo_1 rfl ?_
          refine xo_5 (ls' := [.ref 65, .int x1, .int x2, .int x5, .int q5.1, .int x5, .int q5.1]) rfl ?_
          exact t_X11_partner_b77 hS ih h
        · replace h := jw_neg hc7 h
          refine xo_54 (t := jm_b289_77) rfl ?_
          exact t_X11_partner_b77 hS ih h
      · replace h := jw_neg hc4 h
        refine xo_54 (t := jm_b289_77) rfl ?_
        exact t_X11_partner_b77 hS ih h
theorem t_X11_partner {S : jS} (hS : jMok S) {d : Nat} {Q : Option Value → jx_H → Prop} {rd : Value} {x1 : Int32} {x2 : Int32} {σ : jT} (h : jw (f_X11_partner x1 x2 σ) (fun q => ∀ rd : Value, Q (some (.int q.1)) (jh (jSrd S rd) q.2))) : jx_Sp (d + 109) 289 [.ref 65, .int x1, .int x2] (jh (jSrd S rd) σ) Q := by
  refine ⟨jm_i289, jm_at289, rfl, rfl, ?_⟩
  show jx_Ex _ jm_l289 jm_b289_0 [.ref 65, .int x1, .int x2, .retAddr 0, .retAddr 0, .retAddr 0, .retAddr 0] [] _ _
  unfold f_X11_partner at h
  refine xo_2 rfl ?_
  refine xo_8 ?_
  refine xm_34 (i := 4172) (jSrd_ok hS rd) ly65 rfl ⟨Nat.le_of_ble_eq_true rfl, Nat.le_of_ble_eq_true rfl⟩ ?_
  refine xo_2 rfl ?_
  refine xo_0 rfl ?_
  refine xo_49 (st' := []) rfl rfl (xm_ly (jSrd_ok hS rd) ly65) rfl (Nat.le_of_ble_eq_true rfl) ?_
  refine t_X11_isRider hS ?_
  refine jw_mono (jw_bind h) (fun q1 h => ?_)
  show jx_Ex _ _ _ _ [.int q1.1] (jh (jSrd S rd) q1.2) _
  refine xo_55 (t := jm_b289_21) rfl (fun hc2 => ?_) (fun hc2 => ?_)
  · replace h := jw_pos hc2 h
    refine xo_8 ?_
    replace h := jw_some h
    exact xo_69 (h rd)
  · replace h := jw_neg hc2 h
    refine xo_2 rfl ?_
    refine xo_0 rfl ?_
    refine xo_49 (st' := []) rfl rfl (xm_ly (jSrd_ok hS rd) ly65) rfl (Nat.le_of_ble_eq_true rfl) ?_
    refine t_X11_isPlace hS ?_
    refine jw_mono (jw_bind h) (fun q3 h => ?_)
    show jx_Ex _ _ _ _ [.int q3.1] (jh (jSrd S rd) q3.2) _
    refine xo_56 (t := jm_b289_23) rfl (fun hc4 => ?_) (fun hc4 => ?_)
    · replace h := jw_pos hc4 h
      refine xo_9 ?_
      refine xo_4 (ls' := [.ref 65, .int x1, .int x2, .int (-2), .retAddr 0, .retAddr 0, .retAddr 0]) rfl ?_
      refine xo_8 ?_
      refine xo_5 (ls' := [.ref 65, .int x1, .int x2, .int (-2), .int (-1), .retAddr 0, .retAddr 0]) rfl ?_
      refine xo_8 ?_
      refine xo_5 (ls' := [.ref 65, .int x1, .int x2, .int (-2), .int (-1), .int 0, .retAddr 0]) rfl ?_
      exact t_X11_partner_b32 hS 1000 h
    · replace h := jw_neg hc4 h
      refine xo_8 ?_
      replace h := jw_some h
      exact xo_69 (h rd)
/-- OfDifferentMindsModel.agree, at ['m', 'int', 'int'] K -/
def f_X11_agree_b74 (k21 : Int32 → Int32 → Int32 → Int32 → jT → Option (Int32 × jT)) (x1 : Int32) (x2 : Int32) (x4 : Int32) (s0 : Int32) (s1 : Int32) (σ : jT) : Option (Int32 × jT) :=
  k21 x1 x2 (s1 ||| s0) (x4 + 1) σ
def f_X11_agree_b66 (k21 : Int32 → Int32 → Int32 → Int32 → jT → Option (Int32 × jT)) (x1 : Int32) (x2 : Int32) (x4 : Int32) (s0 : Int32) (σ : jT) : Option (Int32 × jT) :=
  f_X11_agree_b74 k21 x1 x2 x4 (1 <<< (x4 &&& 31)) s0 σ
def f_X11_agree_b21 : Nat → Int32 → Int32 → Int32 → Int32 → jT → Option (Int32 × jT)
  | 0, _, _, _, _, _ => none
  | n + 1, x1, x2, x3, x4, σ =>
    if (σ.1 4161) ≤ x4 then
      (f_J6_bitCount_0f7a4 x3 (gs σ 4171 0)).bind fun q2 =>
      (f_X11_tell q2.1 (gs σ 4171 0)).bind fun q3 =>
      some (x3, q3.2)
    else
      if jx_in x4 10 then
      if (σ.2 67 x4.toNatClampNeg) = 0 then
        f_X11_agree_b66 (f_X11_agree_b21 n) x1 x2 x4 x3 σ
      else
        (f_X11_viewOf_66 x1 x4 σ).bind fun q6 =>
        (f_X11_viewOf_66 x2 x4 q6.2).bind fun q7 =>
        if ¬ q6.1 = q7.1 then
          f_X11_agree_b74 (f_X11_agree_b21 n) x1 x2 x4 0 x3 q7.2
        else
          f_X11_agree_b66 (f_X11_agree_b21 n) x1 x2 x4 x3 q7.2
      else none
def f_X11_agree (x1 : Int32) (x2 : Int32) (σ : jT) : Option (Int32 × jT) :=
  (f_X11_areTwo x1 x2 (gs σ 4172 0)).bind fun q1 =>
  if ¬ q1.1 = 0 then
    f_X11_agree_b21 1000 x1 x2 0 0 q1.2
  else
    some ((-1), q1.2)
theorem t_X11_agree_b74 {S : jS} (hS : jMok S) {d : Nat} {Q : Option Value → jx_H → Prop} {rd : Value} {k21 : Int32 → Int32 → Int32 → Int32 → jT → Option (Int32 × jT)} (hk21 : ∀ {x1 : Int32} {x2 : Int32} {x3 : Int32} {x4 : Int32} {σ : jT}, jw (k21 x1 x2 x3 x4 σ) (fun q => Q (some (.int q.1)) (jh (jSrd S rd) q.2)) → jx_Ex (d + 3) jm_l290 jm_b290_21 [.ref 65, .int x1, .int x2, .int x3, .int x4] [] (jh (jSrd S rd) σ) Q) {x1 : Int32} {x2 : Int32} {x4 : Int32} {s0 : Int32} {s1 : Int32} {w3 : Value} {σ : jT} (h : jw (f_X11_agree_b74 k21 x1 x2 x4 s0 s1 σ) (fun q => Q (some (.int q.1)) (jh (jSrd S rd) q.2))) : jx_Ex (d + 3) jm_l290 jm_b290_74 [.ref 65, .int x1, .int x2, w3, .int x4] [.int s0, .int s1] (jh (jSrd S rd) σ) Q := by
  unfold f_X11_agree_b74 at h
  refine xo_21 ?_
  refine xo_4 (ls' := [.ref 65, .int x1, .int x2, .int (s1 ||| s0), .int x4]) rfl ?_
  refine xo_13 (ls' := [.ref 65, .int x1, .int x2, .int (s1 ||| s0), .int (x4 + 1)]) rfl rfl ?_
  refine xo_54 (t := jm_b290_21) rfl ?_
  exact hk21 h
theorem t_X11_agree_b66 {S : jS} (hS : jMok S) {d : Nat} {Q : Option Value → jx_H → Prop} {rd : Value} {k21 : Int32 → Int32 → Int32 → Int32 → jT → Option (Int32 × jT)} (hk21 : ∀ {x1 : Int32} {x2 : Int32} {x3 : Int32} {x4 : Int32} {σ : jT}, jw (k21 x1 x2 x3 x4 σ) (fun q => Q (some (.int q.1)) (jh (jSrd S rd) q.2)) → jx_Ex (d + 3) jm_l290 jm_b290_21 [.ref 65, .int x1, .int x2, .int x3, .int x4] [] (jh (jSrd S rd) σ) Q) {x1 : Int32} {x2 : Int32} {x4 : Int32} {s0 : Int32} {w3 : Value} {σ : jT} (h : jw (f_X11_agree_b66 k21 x1 x2 x4 s0 σ) (fun q => Q (some (.int q.1)) (jh (jSrd S rd) q.2))) : jx_Ex (d + 3) jm_l290 jm_b290_66 [.ref 65, .int x1, .int x2, w3, .int x4] [.int s0] (jh (jSrd S rd) σ) Q := by
  unfold f_X11_agree_b66 at h
  refine xo_8 ?_
  refine xo_1 rfl ?_
  refine xo_23 ?_
  refine xo_54 (t := jm_b290_74) rfl ?_
  exact t_X11_agree_b74 hS hk21 h
theorem t_X11_agree_b21 {S : jS} (hS : jMok S) {d : Nat} {Q : Option Value → jx_H → Prop} {rd : Value} : ∀ (n : Nat) {x1 : Int32} {x2 : Int32} {x3 : Int32} {x4 : Int32} {σ : jT}, jw (f_X11_agree_b21 n x1 x2 x3 x4 σ) (fun q => Q (some (.int q.1)) (jh (jSrd S rd) q.2)) → jx_Ex (d + 3) jm_l290 jm_b290_21 [.ref 65, .int x1, .int x2, .int x3, .int x4] [] (jh (jSrd S rd) σ) Q := by
  intro n
  induction n with
  | zero => intro x1 x2 x3 x4 σ h; exact jw_none h
  | succ n ih =>
    intro x1 x2 x3 x4 σ h
    rw [f_X11_agree_b21] at h
    refine xo_1 rfl ?_
    refine xo_2 rfl ?_
    refine xm_32 (i := 4161) (v := (σ.1 4161)) (jSrd_ok hS rd) ly65 rfl ⟨Nat.le_of_ble_eq_true rfl, Nat.le_of_ble_eq_true rfl⟩ rfl ?_
    refine xo_64 (t := jm_b290_82) rfl (fun hc1 => ?_) (fun hc1 => ?_)
    · replace h := jw_pos hc1 h
      refine xo_2 rfl ?_
      refine xo_8 ?_
      refine xm_34 (i := 4171) (jSrd_ok hS rd) ly65 rfl ⟨Nat.le_of_ble_eq_true rfl, Nat.le_of_ble_eq_true rfl⟩ ?_
      refine xo_2 rfl ?_
      refine xo_0 rfl ?_
      refine xo_50 (st' := [.ref 65]) rfl rfl rfl (Nat.le_of_ble_eq_true rfl) ?_
      refine t_J6_bitCount_0f7a4 (S := S) (σ := (gs σ 4171 0)) ?_
      refine jw_mono (jw_bind h) (fun q2 h => ?_)
      show jx_Ex _ _ _ _ [.int q2.1, .ref 65] (jh (jSrd S rd) (gs σ 4171 0)) _
      refine xo_49 (st' := []) rfl rfl (xm_ly (jSrd_ok hS rd) ly65) rfl (Nat.le_of_ble_eq_true rfl) ?_
      refine t_X11_tell hS ?_
      refine jw_mono (jw_bind h) (fun q3 h => ?_)
      show jx_Ex _ _ _ _ [] (jh (jSrd S rd) q3.2) _
      refine xo_0 rfl ?_
      replace h := jw_some h
      exact xo_69 h
    · replace h := jw_neg hc1 h
      refine xo_0 rfl ?_
      refine xo_2 rfl ?_
      refine xm_33 (i := 4162) (q := 67) (jSrd_ok hS rd) ly65 rfl (xm_P (jSrd_ok hS rd) (by decide)) ?_
      refine xo_1 rfl ?_
      obtain ⟨hi4, h⟩ := jw_chk h
      refine xm_38 (j := x4.toNatClampNeg) (v := (σ.2 67 x4.toNatClampNeg)) (jSrd_ok hS rd) ly67 ⟨Nat.le_of_ble_eq_true rfl, Nat.le_of_ble_eq_true rfl⟩ hi4 rfl rfl ?_
      refine xo_55 (t := jm_b290_66) rfl (fun hc5 => ?_) (fun hc5 => ?_)
      · replace h := jw_pos hc5 h
        exact t_X11_agree_b66 hS ih h
      · replace h := jw_neg hc5 h
        refine xo_2 rfl ?_
        refine xo_2 rfl ?_
        refine xm_33 (i := 4160) (q := 66) (jSrd_ok hS rd) ly65 rfl (xm_P (jSrd_ok hS rd) (by decide)) ?_
        refine xo_0 rfl ?_
        refine xo_1 rfl ?_
        refine xo_49 (st' := [.int x3]) rfl rfl (xm_ly (jSrd_ok hS rd) ly65) rfl (Nat.le_of_ble_eq_true rfl) ?_
        refine t_X11_viewOf_66 hS ?_
        refine jw_mono (jw_bind h) (fun q6 h => ?_)
        show jx_Ex _ _ _ _ [.int q6.1, .int x3] (jh (jSrd S rd) q6.2) _
        refine xo_2 rfl ?_
        refine xo_2 rfl ?_
        refine xm_33 (i := 4160) (q := 66) (jSrd_ok hS rd) ly65 rfl (xm_P (jSrd_ok hS rd) (by decide)) ?_
        refine xo_0 rfl ?_
        refine xo_1 rfl ?_
        refine xo_49 (st' := [.int q6.1, .int x3]) rfl rfl (xm_ly (jSrd_ok hS rd) ly65) rfl (Nat.le_of_ble_eq_true rfl) ?_
        refine t_X11_viewOf_66 hS ?_
        refine jw_mono (jw_bind h) (fun q7 h => ?_)
        show jx_Ex _ _ _ _ [.int q7.1, .int q6.1, .int x3] (jh (jSrd S rd) q7.2) _
        refine xo_62 (t := jm_b290_73) rfl (fun hc8 => ?_) (fun hc8 => ?_)
        · replace h := jw_pos hc8 h
          refine xo_8 ?_
          exact t_X11_agree_b74 hS ih h
        · replace h := jw_neg hc8 h
          exact t_X11_agree_b66 hS ih h
theorem t_X11_agree {S : jS} (hS : jMok S) {d : Nat} {Q : Option Value → jx_H → Prop} {rd : Value} {x1 : Int32} {x2 : Int32} {σ : jT} (h : jw (f_X11_agree x1 x2 σ) (fun q => Q (some (.int q.1)) (jh (jSrd S rd) q.2))) : jx_Sp (d + 3) 290 [.ref 65, .int x1, .int x2] (jh (jSrd S rd) σ) Q := by
  refine ⟨jm_i290, jm_at290, rfl, rfl, ?_⟩
  show jx_Ex _ jm_l290 jm_b290_0 [.ref 65, .int x1, .int x2, .retAddr 0, .retAddr 0] [] _ _
  unfold f_X11_agree at h
  refine xo_2 rfl ?_
  refine xo_8 ?_
  refine xm_34 (i := 4172) (jSrd_ok hS rd) ly65 rfl ⟨Nat.le_of_ble_eq_true rfl, Nat.le_of_ble_eq_true rfl⟩ ?_
  refine xo_2 rfl ?_
  refine xo_0 rfl ?_
  refine xo_0 rfl ?_
  refine xo_49 (st' := []) rfl rfl (xm_ly (jSrd_ok hS rd) ly65) rfl (Nat.le_of_ble_eq_true rfl) ?_
  refine t_X11_areTwo hS ?_
  refine jw_mono (jw_bind h) (fun q1 h => ?_)
  show jx_Ex _ _ _ _ [.int q1.1] (jh (jSrd S rd) q1.2) _
  refine xo_56 (t := jm_b290_16) rfl (fun hc2 => ?_) (fun hc2 => ?_)
  · replace h := jw_pos hc2 h
    refine xo_8 ?_
    refine xo_4 (ls' := [.ref 65, .int x1, .int x2, .int 0, .retAddr 0]) rfl ?_
    refine xo_8 ?_
    refine xo_5 (ls' := [.ref 65, .int x1, .int x2, .int 0, .int 0]) rfl ?_
    exact t_X11_agree_b21 hS 1000 h
  · replace h := jw_neg hc2 h
    refine xo_8 ?_
    replace h := jw_some h
    exact xo_69 h
/-- OfDifferentMindsModel.convinces, at ['m', 'int', 'int', 'int'] U -/
def f_X11_convinces_b88 (s0 : Int32) (σ : jT) : Option (Int32 × jT) :=
  (f_X11_leftOf_82 s0 σ).bind fun q1 =>
  (f_X11_tell q1.1 q1.2).bind fun q2 =>
  some ((q2.2.1 4187), q2.2)
def f_X11_convinces_b28 : Nat → Int32 → Int32 → Int32 → jT → Option (Int32 × jT)
  | 0, _, _, _, _ => none
  | n + 1, x1, x2, x4, σ =>
    if 200 < x4 then
      some ((-2), σ)
    else
      (f_X11_step_82 σ).bind fun q2 =>
      if q2.1 = 0 then
        some ((-2), q2.2)
      else
        if ¬ (q2.2.1 4187) = (-1) then
          (f_X11_tell x4 (gs q2.2 4171 0)).bind fun q6 =>
          if ¬ (q6.2.1 4187) = x1 then
            f_X11_convinces_b88 x1 q6.2
          else
            f_X11_convinces_b88 x2 q6.2
        else
          f_X11_convinces_b28 n x1 x2 (x4 + 1) q2.2
def f_X11_convinces (x1 : Int32) (x2 : Int32) (x3 : Int32) (σ : jT) : Option (Int32 × jT) :=
  (f_X11_canRide x1 x2 x3 (gs σ 4172 0)).bind fun q1 =>
  if ¬ q1.1 = 0 then
    (f_X11_mountThen x1 x2 x3 0 q1.2).bind fun q3 =>
    f_X11_convinces_b28 1000 x1 x2 1 q3.2
  else
    some ((-1), q1.2)
theorem t_X11_convinces_b88 {S : jS} (hS : jMok S) {d : Nat} {Q : Option Value → jx_H → Prop} {rd : Value} {s0 : Int32} {w1 : Value} {w2 : Value} {w3 : Value} {w4 : Value} {σ : jT} (h : jw (f_X11_convinces_b88 s0 σ) (fun q => ∀ rd : Value, Q (some (.int q.1)) (jh (jSrd S rd) q.2))) : jx_Ex (d + 107) jm_l291 jm_b291_88 [.ref 65, w1, w2, w3, w4] [.int s0, .ref 82, .ref 65, .ref 65] (jh (jSrd S rd) σ) Q := by
  unfold f_X11_convinces_b88 at h
  refine xo_49 (st' := [.ref 65]) rfl rfl (xm_ly (jSrd_ok hS rd) ly65) rfl (Nat.le_of_ble_eq_true rfl) ?_
  refine t_X11_leftOf_82 hS ?_
  refine jw_mono (jw_bind h) (fun q1 h => ?_)
  show jx_Ex _ _ _ _ [.int q1.1, .ref 65] (jh (jSrd S rd) q1.2) _
  refine xo_49 (st' := []) rfl rfl (xm_ly (jSrd_ok hS rd) ly65) rfl (Nat.le_of_ble_eq_true rfl) ?_
  refine t_X11_tell hS ?_
  refine jw_mono (jw_bind h) (fun q2 h => ?_)
  show jx_Ex _ _ _ _ [] (jh (jSrd S rd) q2.2) _
  refine xo_2 rfl ?_
  refine xm_32 (i := 4187) (v := (q2.2.1 4187)) (jSrd_ok hS rd) ly65 rfl ⟨Nat.le_of_ble_eq_true rfl, Nat.le_of_ble_eq_true rfl⟩ rfl ?_
  replace h := jw_some h
  exact xo_69 (h rd)
theorem t_X11_convinces_b28 {S : jS} (hS : jMok S) {d : Nat} {Q : Option Value → jx_H → Prop} : ∀ (n : Nat) {rd : Value} {x1 : Int32} {x2 : Int32} {x4 : Int32} {w3 : Value} {σ : jT}, jw (f_X11_convinces_b28 n x1 x2 x4 σ) (fun q => ∀ rd : Value, Q (some (.int q.1)) (jh (jSrd S rd) q.2)) → jx_Ex (d + 107) jm_l291 jm_b291_28 [.ref 65, .int x1, .int x2, w3, .int x4] [] (jh (jSrd S rd) σ) Q := by
  intro n
  induction n with
  | zero => intro rd x1 x2 x4 w3 σ h; exact jw_none h
  | succ n ih =>
    intro rd x1 x2 x4 w3 σ h
    rw [f_X11_convinces_b28] at h
    refine xo_1 rfl ?_
    refine xo_10 ?_
    refine xo_65 (t := jm_b291_105) rfl (fun hc1 => ?_) (fun hc1 => ?_)
    · replace h := jw_pos hc1 h
      refine xo_9 ?_
      replace h := jw_some h
      exact xo_69 (h rd)
    · replace h := jw_neg hc1 h
      refine xo_2 rfl ?_
      refine xo_2 rfl ?_
      refine xm_33 (i := 4194) (q := 82) (jSrd_ok hS rd) ly65 rfl (xm_P (jSrd_ok hS rd) (by decide)) ?_
      refine xo_49 (st' := []) rfl rfl (xm_ly (jSrd_ok hS rd) ly65) rfl (Nat.le_of_ble_eq_true rfl) ?_
      refine t_X11_step_82 hS ?_
      refine jw_mono (jw_bind h) (fun q2 h rd3 => ?_)
      show jx_Ex _ _ _ _ [.int q2.1] (jh (jSrd S rd3) q2.2) _
      refine xo_55 (t := jm_b291_105) rfl (fun hc4 => ?_) (fun hc4 => ?_)
      · replace h := jw_pos hc4 h
        refine xo_9 ?_
        replace h := jw_some h
        exact xo_69 (h rd3)
      · replace h := jw_neg hc4 h
        refine xo_2 rfl ?_
        refine xm_32 (i := 4187) (v := (q2.2.1 4187)) (jSrd_ok hS rd3) ly65 rfl ⟨Nat.le_of_ble_eq_true rfl, Nat.le_of_ble_eq_true rfl⟩ rfl ?_
        refine xo_8 ?_
        refine xo_62 (t := jm_b291_58) rfl (fun hc5 => ?_) (fun hc5 => ?_)
        · replace h := jw_pos hc5 h
          refine xo_2 rfl ?_
          refine xo_8 ?_
          refine xm_34 (i := 4171) (jSrd_ok hS rd3) ly65 rfl ⟨Nat.le_of_ble_eq_true rfl, Nat.le_of_ble_eq_true rfl⟩ ?_
          refine xo_2 rfl ?_
          refine xo_1 rfl ?_
          refine xo_49 (st' := []) rfl rfl (xm_ly (jSrd_ok hS rd3) ly65) rfl (Nat.le_of_ble_eq_true rfl) ?_
          refine t_X11_tell hS ?_
          refine jw_mono (jw_bind h) (fun q6 h => ?_)
          show jx_Ex _ _ _ _ [] (jh (jSrd S rd3) q6.2) _
          refine xo_2 rfl ?_
          refine xo_2 rfl ?_
          refine xo_2 rfl ?_
          refine xm_33 (i := 4194) (q := 82) (jSrd_ok hS rd3) ly65 rfl (xm_P (jSrd_ok hS rd3) (by decide)) ?_
          refine xo_2 rfl ?_
          refine xm_32 (i := 4187) (v := (q6.2.1 4187)) (jSrd_ok hS rd3) ly65 rfl ⟨Nat.le_of_ble_eq_true rfl, Nat.le_of_ble_eq_true rfl⟩ rfl ?_
          refine xo_0 rfl ?_
          refine xo_62 (t := jm_b291_87) rfl (fun hc7 => ?_) (fun hc7 => ?_)
          · replace h := jw_pos hc7 h
            refine xo_0 rfl ?_
            exact t_X11_convinces_b88 hS h
          · replace h := jw_neg hc7 h
            refine xo_0 rfl ?_
            refine xo_54 (t := jm_b291_88) rfl ?_
            exact t_X11_convinces_b88 hS h
        · replace h := jw_neg hc5 h
          refine xo_54 (t := jm_b291_99) rfl ?_
          refine xo_13 (ls' := [.ref 65, .int x1, .int x2, w3, .int (x4 + 1)]) rfl rfl ?_
          refine xo_54 (t := jm_b291_28) rfl ?_
          exact ih h
theorem t_X11_convinces {S : jS} (hS : jMok S) {d : Nat} {Q : Option Value → jx_H → Prop} {rd : Value} {x1 : Int32} {x2 : Int32} {x3 : Int32} {σ : jT} (h : jw (f_X11_convinces x1 x2 x3 σ) (fun q => ∀ rd : Value, Q (some (.int q.1)) (jh (jSrd S rd) q.2))) : jx_Sp (d + 107) 291 [.ref 65, .int x1, .int x2, .int x3] (jh (jSrd S rd) σ) Q := by
  refine ⟨jm_i291, jm_at291, rfl, rfl, ?_⟩
  show jx_Ex _ jm_l291 jm_b291_0 [.ref 65, .int x1, .int x2, .int x3, .retAddr 0] [] _ _
  unfold f_X11_convinces at h
  refine xo_2 rfl ?_
  refine xo_8 ?_
  refine xm_34 (i := 4172) (jSrd_ok hS rd) ly65 rfl ⟨Nat.le_of_ble_eq_true rfl, Nat.le_of_ble_eq_true rfl⟩ ?_
  refine xo_2 rfl ?_
  refine xo_0 rfl ?_
  refine xo_0 rfl ?_
  refine xo_0 rfl ?_
  refine xo_49 (st' := []) rfl rfl (xm_ly (jSrd_ok hS rd) ly65) rfl (Nat.le_of_ble_eq_true rfl) ?_
  refine t_X11_canRide hS ?_
  refine jw_mono (jw_bind h) (fun q1 h => ?_)
  show jx_Ex _ _ _ _ [.int q1.1] (jh (jSrd S rd) q1.2) _
  refine xo_56 (t := jm_b291_17) rfl (fun hc2 => ?_) (fun hc2 => ?_)
  · replace h := jw_pos hc2 h
    refine xo_2 rfl ?_
    refine xo_0 rfl ?_
    refine xo_0 rfl ?_
    refine xo_0 rfl ?_
    refine xo_8 ?_
    refine xo_49 (st' := []) rfl rfl (xm_ly (jSrd_ok hS rd) ly65) rfl (Nat.le_of_ble_eq_true rfl) ?_
    refine t_X11_mountThen hS ?_
    refine jw_mono (jw_bind h) (fun q3 h => ?_)
    show jx_Ex _ _ _ _ [] (jh (jSrd S rd) q3.2) _
    refine xo_8 ?_
    refine xo_5 (ls' := [.ref 65, .int x1, .int x2, .int x3, .int 1]) rfl ?_
    exact t_X11_convinces_b28 hS 1000 h
  · replace h := jw_neg hc2 h
    refine xo_8 ?_
    replace h := jw_some h
    exact xo_69 (h rd)
/-- OfDifferentMindsModel.wayOfClaim, at ['m', 'int', 'int'] U -/
def f_X11_wayOfClaim_b56 (x3 : Int32) (x4 : Int32) (s0 : Int32) (σ : jT) : Option (Int32 × jT) :=
  if ¬ x4 = s0 then
    (f_X11_leftOf_66 (σ.2 66 1) σ).bind fun q2 =>
    (f_X11_leftOf_66 (q2.2.2 66 2) q2.2).bind fun q3 =>
    (f_X11_wayBy x4 s0 x3 (σ.2 66 3) q2.1 q3.1 q3.2).bind fun q4 =>
    some (q4.1, q4.2)
  else
    some ((-1), σ)
def f_X11_wayOfClaim_b30 (x1 : Int32) (x2 : Int32) (x3 : Int32) (s0 : Int32) (σ : jT) : Option (Int32 × jT) :=
  if ¬ x1 = 1 then
    (f_X11_viewOf_66 (σ.2 66 2) x3 σ).bind fun q2 =>
    f_X11_wayOfClaim_b56 x3 s0 q2.1 q2.2
  else
    f_X11_wayOfClaim_b56 x3 s0 x2 σ
def f_X11_wayOfClaim (x1 : Int32) (x2 : Int32) (σ : jT) : Option (Int32 × jT) :=
  if ¬ x1 = 0 then
    (f_X11_viewOf_66 (σ.2 66 1) (σ.2 66 0) σ).bind fun q2 =>
    f_X11_wayOfClaim_b30 x1 x2 (σ.2 66 0) q2.1 q2.2
  else
    f_X11_wayOfClaim_b30 x1 x2 (σ.2 66 0) x2 σ
theorem t_X11_wayOfClaim_b56 {S : jS} (hS : jMok S) {d : Nat} {Q : Option Value → jx_H → Prop} {rd : Value} {x3 : Int32} {x4 : Int32} {s0 : Int32} {w1 : Value} {w2 : Value} {w5 : Value} {σ : jT} (h : jw (f_X11_wayOfClaim_b56 x3 x4 s0 σ) (fun q => ∀ rd : Value, Q (some (.int q.1)) (jh (jSrd S rd) q.2))) : jx_Ex (d + 105) jm_l293 jm_b293_56 [.ref 65, w1, w2, .int x3, .int x4, w5] [.int s0] (jh (jSrd S rd) σ) Q := by
  unfold f_X11_wayOfClaim_b56 at h
  refine xo_5 (ls' := [.ref 65, w1, w2, .int x3, .int x4, .int s0]) rfl ?_
  refine xo_1 rfl ?_
  refine xo_1 rfl ?_
  refine xo_62 (t := jm_b293_69) rfl (fun hc1 => ?_) (fun hc1 => ?_)
  · replace h := jw_pos hc1 h
    refine xo_2 rfl ?_
    refine xo_1 rfl ?_
    refine xo_1 rfl ?_
    refine xo_0 rfl ?_
    refine xo_2 rfl ?_
    refine xm_33 (i := 4160) (q := 66) (jSrd_ok hS rd) ly65 rfl (xm_P (jSrd_ok hS rd) (by decide)) ?_
    refine xo_8 ?_
    refine xm_38 (j := 3) (v := (σ.2 66 3)) (jSrd_ok hS rd) ly66 ⟨Nat.le_of_ble_eq_true rfl, Nat.le_of_ble_eq_true rfl⟩ (by decide) (by decide) rfl ?_
    refine xo_2 rfl ?_
    refine xo_2 rfl ?_
    refine xm_33 (i := 4160) (q := 66) (jSrd_ok hS rd) ly65 rfl (xm_P (jSrd_ok hS rd) (by decide)) ?_
    refine xo_2 rfl ?_
    refine xm_33 (i := 4160) (q := 66) (jSrd_ok hS rd) ly65 rfl (xm_P (jSrd_ok hS rd) (by decide)) ?_
    refine xo_8 ?_
    refine xm_38 (j := 1) (v := (σ.2 66 1)) (jSrd_ok hS rd) ly66 ⟨Nat.le_of_ble_eq_true rfl, Nat.le_of_ble_eq_true rfl⟩ (by decide) (by decide) rfl ?_
    refine xo_49 (st' := [.int (σ.2 66 3), .int x3, .int s0, .int x4, .ref 65]) rfl rfl (xm_ly (jSrd_ok hS rd) ly65) rfl (Nat.le_of_ble_eq_true rfl) ?_
    refine t_X11_leftOf_66 hS ?_
    refine jw_mono (jw_bind h) (fun q2 h => ?_)
    show jx_Ex _ _ _ _ [.int q2.1, .int (σ.2 66 3), .int x3, .int s0, .int x4, .ref 65] (jh (jSrd S rd) q2.2) _
    refine xo_2 rfl ?_
    refine xo_2 rfl ?_
    refine xm_33 (i := 4160) (q := 66) (jSrd_ok hS rd) ly65 rfl (xm_P (jSrd_ok hS rd) (by decide)) ?_
    refine xo_2 rfl ?_
    refine xm_33 (i := 4160) (q := 66) (jSrd_ok hS rd) ly65 rfl (xm_P (jSrd_ok hS rd) (by decide)) ?_
    refine xo_8 ?_
    refine xm_38 (j := 2) (v := (q2.2.2 66 2)) (jSrd_ok hS rd) ly66 ⟨Nat.le_of_ble_eq_true rfl, Nat.le_of_ble_eq_true rfl⟩ (by decide) (by decide) rfl ?_
    refine xo_49 (st' := [.int q2.1, .int (σ.2 66 3), .int x3, .int s0, .int x4, .ref 65]) rfl rfl (xm_ly (jSrd_ok hS rd) ly65) rfl (Nat.le_of_ble_eq_true rfl) ?_
    refine t_X11_leftOf_66 hS ?_
    refine jw_mono (jw_bind h) (fun q3 h => ?_)
    show jx_Ex _ _ _ _ [.int q3.1, .int q2.1, .int (σ.2 66 3), .int x3, .int s0, .int x4, .ref 65] (jh (jSrd S rd) q3.2) _
    refine xo_49 (st' := []) rfl rfl (xm_ly (jSrd_ok hS rd) ly65) rfl (Nat.le_of_ble_eq_true rfl) ?_
    refine t_X11_wayBy hS ?_
    refine jw_mono (jw_bind h) (fun q4 h rd5 => ?_)
    show jx_Ex _ _ _ _ [.int q4.1] (jh (jSrd S rd5) q4.2) _
    replace h := jw_some h
    exact xo_69 (h rd5)
  · replace h := jw_neg hc1 h
    refine xo_8 ?_
    refine xo_54 (t := jm_b293_112) rfl ?_
    replace h := jw_some h
    exact xo_69 (h rd)
theorem t_X11_wayOfClaim_b30 {S : jS} (hS : jMok S) {d : Nat} {Q : Option Value → jx_H → Prop} {rd : Value} {x1 : Int32} {x2 : Int32} {x3 : Int32} {s0 : Int32} {w4 : Value} {w5 : Value} {σ : jT} (h : jw (f_X11_wayOfClaim_b30 x1 x2 x3 s0 σ) (fun q => ∀ rd : Value, Q (some (.int q.1)) (jh (jSrd S rd) q.2))) : jx_Ex (d + 105) jm_l293 jm_b293_30 [.ref 65, .int x1, .int x2, .int x3, w4, w5] [.int s0] (jh (jSrd S rd) σ) Q := by
  unfold f_X11_wayOfClaim_b30 at h
  refine xo_5 (ls' := [.ref 65, .int x1, .int x2, .int x3, .int s0, w5]) rfl ?_
  refine xo_0 rfl ?_
  refine xo_8 ?_
  refine xo_62 (t := jm_b293_41) rfl (fun hc1 => ?_) (fun hc1 => ?_)
  · replace h := jw_pos hc1 h
    refine xo_2 rfl ?_
    refine xo_2 rfl ?_
    refine xm_33 (i := 4160) (q := 66) (jSrd_ok hS rd) ly65 rfl (xm_P (jSrd_ok hS rd) (by decide)) ?_
    refine xo_2 rfl ?_
    refine xm_33 (i := 4160) (q := 66) (jSrd_ok hS rd) ly65 rfl (xm_P (jSrd_ok hS rd) (by decide)) ?_
    refine xo_8 ?_
    refine xm_38 (j := 2) (v := (σ.2 66 2)) (jSrd_ok hS rd) ly66 ⟨Nat.le_of_ble_eq_true rfl, Nat.le_of_ble_eq_true rfl⟩ (by decide) (by decide) rfl ?_
    refine xo_0 rfl ?_
    refine xo_49 (st' := []) rfl rfl (xm_ly (jSrd_ok hS rd) ly65) rfl (Nat.le_of_ble_eq_true rfl) ?_
    refine t_X11_viewOf_66 hS ?_
    refine jw_mono (jw_bind h) (fun q2 h => ?_)
    show jx_Ex _ _ _ _ [.int q2.1] (jh (jSrd S rd) q2.2) _
    exact t_X11_wayOfClaim_b56 hS h
  · replace h := jw_neg hc1 h
    refine xo_0 rfl ?_
    refine xo_54 (t := jm_b293_56) rfl ?_
    exact t_X11_wayOfClaim_b56 hS h
theorem t_X11_wayOfClaim {S : jS} (hS : jMok S) {d : Nat} {Q : Option Value → jx_H → Prop} {rd : Value} {x1 : Int32} {x2 : Int32} {σ : jT} (h : jw (f_X11_wayOfClaim x1 x2 σ) (fun q => ∀ rd : Value, Q (some (.int q.1)) (jh (jSrd S rd) q.2))) : jx_Sp (d + 105) 293 [.ref 65, .int x1, .int x2] (jh (jSrd S rd) σ) Q := by
  refine ⟨jm_i293, jm_at293, rfl, rfl, ?_⟩
  show jx_Ex _ jm_l293 jm_b293_0 [.ref 65, .int x1, .int x2, .retAddr 0, .retAddr 0, .retAddr 0] [] _ _
  unfold f_X11_wayOfClaim at h
  refine xo_2 rfl ?_
  refine xm_33 (i := 4160) (q := 66) (jSrd_ok hS rd) ly65 rfl (xm_P (jSrd_ok hS rd) (by decide)) ?_
  refine xo_8 ?_
  refine xm_38 (j := 0) (v := (σ.2 66 0)) (jSrd_ok hS rd) ly66 ⟨Nat.le_of_ble_eq_true rfl, Nat.le_of_ble_eq_true rfl⟩ (by decide) (by decide) rfl ?_
  refine xo_4 (ls' := [.ref 65, .int x1, .int x2, .int (σ.2 66 0), .retAddr 0, .retAddr 0]) rfl ?_
  refine xo_0 rfl ?_
  refine xo_56 (t := jm_b293_15) rfl (fun hc1 => ?_) (fun hc1 => ?_)
  · replace h := jw_pos hc1 h
    refine xo_2 rfl ?_
    refine xo_2 rfl ?_
    refine xm_33 (i := 4160) (q := 66) (jSrd_ok hS rd) ly65 rfl (xm_P (jSrd_ok hS rd) (by decide)) ?_
    refine xo_2 rfl ?_
    refine xm_33 (i := 4160) (q := 66) (jSrd_ok hS rd) ly65 rfl (xm_P (jSrd_ok hS rd) (by decide)) ?_
    refine xo_8 ?_
    refine xm_38 (j := 1) (v := (σ.2 66 1)) (jSrd_ok hS rd) ly66 ⟨Nat.le_of_ble_eq_true rfl, Nat.le_of_ble_eq_true rfl⟩ (by decide) (by decide) rfl ?_
    refine xo_0 rfl ?_
    refine xo_49 (st' := []) rfl rfl (xm_ly (jSrd_ok hS rd) ly65) rfl (Nat.le_of_ble_eq_true rfl) ?_
    refine t_X11_viewOf_66 hS ?_
    refine jw_mono (jw_bind h) (fun q2 h => ?_)
    show jx_Ex _ _ _ _ [.int q2.1] (jh (jSrd S rd) q2.2) _
    exact t_X11_wayOfClaim_b30 hS h
  · replace h := jw_neg hc1 h
    refine xo_0 rfl ?_
    refine xo_54 (t := jm_b293_30) rfl ?_
    exact t_X11_wayOfClaim_b30 hS h
/-- OfDifferentMindsModel.claim, at ['m', 'int', 'int'] U -/
def f_X11_claim_b81 (k45 : Int32 → Int32 → Int32 → Int32 → jT → Option (Int32 × jT)) (x1 : Int32) (x2 : Int32) (x4 : Int32) (s0 : Int32) (s1 : Int32) (σ : jT) : Option (Int32 × jT) :=
  k45 x1 x2 (s1 ||| s0) (x4 + 1) σ
def f_X11_claim_b45 : Nat → Int32 → Int32 → Int32 → Int32 → jT → Option (Int32 × jT)
  | 0, _, _, _, _, _ => none
  | n + 1, x1, x2, x3, x4, σ =>
    if jx_in (σ.2 66 0) 10 then
    if (σ.2 67 (σ.2 66 0).toNatClampNeg) ≤ x4 then
      some (x3, σ)
    else
      (f_X11_wayOfClaim x1 x4 σ).bind fun q3 =>
      if ¬ q3.1 = x2 then
        f_X11_claim_b81 (f_X11_claim_b45 n) x1 x2 x4 0 x3 q3.2
      else
        f_X11_claim_b81 (f_X11_claim_b45 n) x1 x2 x4 (1 <<< (x4 &&& 31)) x3 q3.2
    else none
def f_X11_claim (x1 : Int32) (x2 : Int32) (σ : jT) : Option (Int32 × jT) :=
  (f_X11_in x1 0 1 (gs σ 4172 0)).bind fun q1 =>
  if ¬ q1.1 = 0 then
    (f_X11_isRidden q1.2).bind fun q3 =>
    if q3.1 = 0 then
      some ((-2), q3.2)
    else
      (f_X11_isWay (q3.2.2 66 0) x2 q3.2).bind fun q5 =>
      if ¬ q5.1 = 0 then
        f_X11_claim_b45 1000 x1 x2 0 0 q5.2
      else
        some ((-2), q5.2)
  else
    some ((-1), q1.2)
theorem t_X11_claim_b81 {S : jS} (hS : jMok S) {d : Nat} {Q : Option Value → jx_H → Prop} {k45 : Int32 → Int32 → Int32 → Int32 → jT → Option (Int32 × jT)} (hk45 : ∀ {rd : Value} {x1 : Int32} {x2 : Int32} {x3 : Int32} {x4 : Int32} {σ : jT}, jw (k45 x1 x2 x3 x4 σ) (fun q => ∀ rd : Value, Q (some (.int q.1)) (jh (jSrd S rd) q.2)) → jx_Ex (d + 106) jm_l294 jm_b294_45 [.ref 65, .int x1, .int x2, .int x3, .int x4] [] (jh (jSrd S rd) σ) Q) {rd : Value} {x1 : Int32} {x2 : Int32} {x4 : Int32} {s0 : Int32} {s1 : Int32} {w3 : Value} {σ : jT} (h : jw (f_X11_claim_b81 k45 x1 x2 x4 s0 s1 σ) (fun q => ∀ rd : Value, Q (some (.int q.1)) (jh (jSrd S rd) q.2))) : jx_Ex (d + 106) jm_l294 jm_b294_81 [.ref 65, .int x1, .int x2, w3, .int x4] [.int s0, .int s1] (jh (jSrd S rd) σ) Q := by
  unfold f_X11_claim_b81 at h
  refine xo_21 ?_
  refine xo_4 (ls' := [.ref 65, .int x1, .int x2, .int (s1 ||| s0), .int x4]) rfl ?_
  refine xo_13 (ls' := [.ref 65, .int x1, .int x2, .int (s1 ||| s0), .int (x4 + 1)]) rfl rfl ?_
  refine xo_54 (t := jm_b294_45) rfl ?_
  exact hk45 h
theorem t_X11_claim_b45 {S : jS} (hS : jMok S) {d : Nat} {Q : Option Value → jx_H → Prop} : ∀ (n : Nat) {rd : Value} {x1 : Int32} {x2 : Int32} {x3 : Int32} {x4 : Int32} {σ : jT}, jw (f_X11_claim_b45 n x1 x2 x3 x4 σ) (fun q => ∀ rd : Value, Q (some (.int q.1)) (jh (jSrd S rd) q.2)) → jx_Ex (d + 106) jm_l294 jm_b294_45 [.ref 65, .int x1, .int x2, .int x3, .int x4] [] (jh (jSrd S rd) σ) Q := by
  intro n
  induction n with
  | zero => intro rd x1 x2 x3 x4 σ h; exact jw_none h
  | succ n ih =>
    intro rd x1 x2 x3 x4 σ h
    rw [f_X11_claim_b45] at h
    refine xo_1 rfl ?_
    refine xo_2 rfl ?_
    refine xm_33 (i := 4162) (q := 67) (jSrd_ok hS rd) ly65 rfl (xm_P (jSrd_ok hS rd) (by decide)) ?_
    refine xo_2 rfl ?_
    refine xm_33 (i := 4160) (q := 66) (jSrd_ok hS rd) ly65 rfl (xm_P (jSrd_ok hS rd) (by decide)) ?_
    refine xo_8 ?_
    refine xm_38 (j := 0) (v := (σ.2 66 0)) (jSrd_ok hS rd) ly66 ⟨Nat.le_of_ble_eq_true rfl, Nat.le_of_ble_eq_true rfl⟩ (by decide) (by decide) rfl ?_
    obtain ⟨hi1, h⟩ := jw_chk h
    refine xm_38 (j := (σ.2 66 0).toNatClampNeg) (v := (σ.2 67 (σ.2 66 0).toNatClampNeg)) (jSrd_ok hS rd) ly67 ⟨Nat.le_of_ble_eq_true rfl, Nat.le_of_ble_eq_true rfl⟩ hi1 rfl rfl ?_
    refine xo_64 (t := jm_b294_89) rfl (fun hc2 => ?_) (fun hc2 => ?_)
    · replace h := jw_pos hc2 h
      refine xo_0 rfl ?_
      replace h := jw_some h
      exact xo_69 (h rd)
    · replace h := jw_neg hc2 h
      refine xo_0 rfl ?_
      refine xo_2 rfl ?_
      refine xo_0 rfl ?_
      refine xo_1 rfl ?_
      refine xo_49 (st' := [.int x3]) rfl rfl (xm_ly (jSrd_ok hS rd) ly65) rfl (Nat.le_of_ble_eq_true rfl) ?_
      refine t_X11_wayOfClaim hS ?_
      refine jw_mono (jw_bind h) (fun q3 h rd4 => ?_)
      show jx_Ex _ _ _ _ [.int q3.1, .int x3] (jh (jSrd S rd4) q3.2) _
      refine xo_0 rfl ?_
      refine xo_62 (t := jm_b294_80) rfl (fun hc5 => ?_) (fun hc5 => ?_)
      · replace h := jw_pos hc5 h
        refine xo_8 ?_
        exact t_X11_claim_b81 hS ih h
      · replace h := jw_neg hc5 h
        refine xo_8 ?_
        refine xo_1 rfl ?_
        refine xo_23 ?_
        refine xo_54 (t := jm_b294_81) rfl ?_
        exact t_X11_claim_b81 hS ih h
theorem t_X11_claim {S : jS} (hS : jMok S) {d : Nat} {Q : Option Value → jx_H → Prop} {rd : Value} {x1 : Int32} {x2 : Int32} {σ : jT} (h : jw (f_X11_claim x1 x2 σ) (fun q => ∀ rd : Value, Q (some (.int q.1)) (jh (jSrd S rd) q.2))) : jx_Sp (d + 106) 294 [.ref 65, .int x1, .int x2] (jh (jSrd S rd) σ) Q := by
  refine ⟨jm_i294, jm_at294, rfl, rfl, ?_⟩
  show jx_Ex _ jm_l294 jm_b294_0 [.ref 65, .int x1, .int x2, .retAddr 0, .retAddr 0] [] _ _
  unfold f_X11_claim at h
  refine xo_2 rfl ?_
  refine xo_8 ?_
  refine xm_34 (i := 4172) (jSrd_ok hS rd) ly65 rfl ⟨Nat.le_of_ble_eq_true rfl, Nat.le_of_ble_eq_true rfl⟩ ?_
  refine xo_0 rfl ?_
  refine xo_8 ?_
  refine xo_8 ?_
  refine xo_50 (st' := []) rfl rfl rfl (Nat.le_of_ble_eq_true rfl) ?_
  refine t_X11_in hS ?_
  refine jw_mono (jw_bind h) (fun q1 h => ?_)
  show jx_Ex _ _ _ _ [.int q1.1] (jh (jSrd S rd) q1.2) _
  refine xo_56 (t := jm_b294_16) rfl (fun hc2 => ?_) (fun hc2 => ?_)
  · replace h := jw_pos hc2 h
    refine xo_2 rfl ?_
    refine xo_49 (st' := []) rfl rfl (xm_ly (jSrd_ok hS rd) ly65) rfl (Nat.le_of_ble_eq_true rfl) ?_
    refine t_X11_isRidden hS ?_
    refine jw_mono (jw_bind h) (fun q3 h => ?_)
    show jx_Ex _ _ _ _ [.int q3.1] (jh (jSrd S rd) q3.2) _
    refine xo_55 (t := jm_b294_37) rfl (fun hc4 => ?_) (fun hc4 => ?_)
    · replace h := jw_pos hc4 h
      refine xo_9 ?_
      replace h := jw_some h
      exact xo_69 (h rd)
    · replace h := jw_neg hc4 h
      refine xo_2 rfl ?_
      refine xo_2 rfl ?_
      refine xm_33 (i := 4160) (q := 66) (jSrd_ok hS rd) ly65 rfl (xm_P (jSrd_ok hS rd) (by decide)) ?_
      refine xo_8 ?_
      refine xm_38 (j := 0) (v := (q3.2.2 66 0)) (jSrd_ok hS rd) ly66 ⟨Nat.le_of_ble_eq_true rfl, Nat.le_of_ble_eq_true rfl⟩ (by decide) (by decide) rfl ?_
      refine xo_0 rfl ?_
      refine xo_49 (st' := []) rfl rfl (xm_ly (jSrd_ok hS rd) ly65) rfl (Nat.le_of_ble_eq_true rfl) ?_
      refine t_X11_isWay hS ?_
      refine jw_mono (jw_bind h) (fun q5 h => ?_)
      show jx_Ex _ _ _ _ [.int q5.1] (jh (jSrd S rd) q5.2) _
      refine xo_56 (t := jm_b294_40) rfl (fun hc6 => ?_) (fun hc6 => ?_)
      · replace h := jw_pos hc6 h
        refine xo_8 ?_
        refine xo_4 (ls' := [.ref 65, .int x1, .int x2, .int 0, .retAddr 0]) rfl ?_
        refine xo_8 ?_
        refine xo_5 (ls' := [.ref 65, .int x1, .int x2, .int 0, .int 0]) rfl ?_
        exact t_X11_claim_b45 hS 1000 h
      · replace h := jw_neg hc6 h
        refine xo_9 ?_
        replace h := jw_some h
        exact xo_69 (h rd)
  · replace h := jw_neg hc2 h
    refine xo_8 ?_
    replace h := jw_some h
    exact xo_69 (h rd)
/-- OfDifferentMindsModel.claims, at ['m', 'int', 'int'] U -/
def f_X11_claims_b68 (x4 : Int32) (s0 : Int32) (σ : jT) : Option (Int32 × jT) :=
  if ¬ x4 = s0 then
    (f_X11_goStep_82 x4 s0 σ).bind fun q2 =>
    some (1, q2.2)
  else
    some (0, σ)
def f_X11_claims_b42 (x1 : Int32) (x2 : Int32) (x3 : Int32) (s0 : Int32) (σ : jT) : Option (Int32 × jT) :=
  if ¬ x1 = 1 then
    (f_X11_viewOf_82 (σ.2 82 2) x3 σ).bind fun q2 =>
    f_X11_claims_b68 s0 q2.1 q2.2
  else
    f_X11_claims_b68 s0 x2 σ
def f_X11_claims (x1 : Int32) (x2 : Int32) (σ : jT) : Option (Int32 × jT) :=
  (f_X11_lay_66_82 0 σ).bind fun q1 =>
  if ¬ x1 = 0 then
    (f_X11_viewOf_82 (q1.2.2 82 1) (q1.2.2 82 0) q1.2).bind fun q3 =>
    f_X11_claims_b42 x1 x2 (q1.2.2 82 0) q3.1 q3.2
  else
    f_X11_claims_b42 x1 x2 (q1.2.2 82 0) x2 q1.2
theorem t_X11_claims_b68 {S : jS} (hS : jMok S) {d : Nat} {Q : Option Value → jx_H → Prop} {rd : Value} {x4 : Int32} {s0 : Int32} {w1 : Value} {w2 : Value} {w3 : Value} {w5 : Value} {σ : jT} (h : jw (f_X11_claims_b68 x4 s0 σ) (fun q => ∀ rd : Value, Q (some (.int q.1)) (jh (jSrd S rd) q.2))) : jx_Ex (d + 106) jm_l292 jm_b292_68 [.ref 65, w1, w2, w3, .int x4, w5] [.int s0] (jh (jSrd S rd) σ) Q := by
  unfold f_X11_claims_b68 at h
  refine xo_5 (ls' := [.ref 65, w1, w2, w3, .int x4, .int s0]) rfl ?_
  refine xo_1 rfl ?_
  refine xo_1 rfl ?_
  refine xo_62 (t := jm_b292_79) rfl (fun hc1 => ?_) (fun hc1 => ?_)
  · replace h := jw_pos hc1 h
    refine xo_2 rfl ?_
    refine xo_2 rfl ?_
    refine xm_33 (i := 4194) (q := 82) (jSrd_ok hS rd) ly65 rfl (xm_P (jSrd_ok hS rd) (by decide)) ?_
    refine xo_1 rfl ?_
    refine xo_1 rfl ?_
    refine xo_49 (st' := []) rfl rfl (xm_ly (jSrd_ok hS rd) ly65) rfl (Nat.le_of_ble_eq_true rfl) ?_
    refine t_X11_goStep_82 hS ?_
    refine jw_mono (jw_bind h) (fun q2 h rd3 => ?_)
    show jx_Ex _ _ _ _ [] (jh (jSrd S rd3) q2.2) _
    refine xo_8 ?_
    replace h := jw_some h
    exact xo_70 (by decide) (h rd3)
  · replace h := jw_neg hc1 h
    refine xo_8 ?_
    replace h := jw_some h
    exact xo_70 (by decide) (h rd)
theorem t_X11_claims_b42 {S : jS} (hS : jMok S) {d : Nat} {Q : Option Value → jx_H → Prop} {rd : Value} {x1 : Int32} {x2 : Int32} {x3 : Int32} {s0 : Int32} {w4 : Value} {w5 : Value} {σ : jT} (h : jw (f_X11_claims_b42 x1 x2 x3 s0 σ) (fun q => ∀ rd : Value, Q (some (.int q.1)) (jh (jSrd S rd) q.2))) : jx_Ex (d + 106) jm_l292 jm_b292_42 [.ref 65, .int x1, .int x2, .int x3, w4, w5] [.int s0] (jh (jSrd S rd) σ) Q := by
  unfold f_X11_claims_b42 at h
  refine xo_5 (ls' := [.ref 65, .int x1, .int x2, .int x3, .int s0, w5]) rfl ?_
  refine xo_0 rfl ?_
  refine xo_8 ?_
  refine xo_62 (t := jm_b292_53) rfl (fun hc1 => ?_) (fun hc1 => ?_)
  · replace h := jw_pos hc1 h
    refine xo_2 rfl ?_
    refine xo_2 rfl ?_
    refine xm_33 (i := 4194) (q := 82) (jSrd_ok hS rd) ly65 rfl (xm_P (jSrd_ok hS rd) (by decide)) ?_
    refine xo_2 rfl ?_
    refine xm_33 (i := 4194) (q := 82) (jSrd_ok hS rd) ly65 rfl (xm_P (jSrd_ok hS rd) (by decide)) ?_
    refine xo_8 ?_
    refine xm_38 (j := 2) (v := (σ.2 82 2)) (jSrd_ok hS rd) ly82 ⟨Nat.le_of_ble_eq_true rfl, Nat.le_of_ble_eq_true rfl⟩ (by decide) (by decide) rfl ?_
    refine xo_0 rfl ?_
    refine xo_49 (st' := []) rfl rfl (xm_ly (jSrd_ok hS rd) ly65) rfl (Nat.le_of_ble_eq_true rfl) ?_
    refine t_X11_viewOf_82 hS ?_
    refine jw_mono (jw_bind h) (fun q2 h => ?_)
    show jx_Ex _ _ _ _ [.int q2.1] (jh (jSrd S rd) q2.2) _
    exact t_X11_claims_b68 hS h
  · replace h := jw_neg hc1 h
    refine xo_0 rfl ?_
    refine xo_54 (t := jm_b292_68) rfl ?_
    exact t_X11_claims_b68 hS h
theorem t_X11_claims {S : jS} (hS : jMok S) {d : Nat} {Q : Option Value → jx_H → Prop} {rd : Value} {x1 : Int32} {x2 : Int32} {σ : jT} (h : jw (f_X11_claims x1 x2 σ) (fun q => ∀ rd : Value, Q (some (.int q.1)) (jh (jSrd S rd) q.2))) : jx_Sp (d + 106) 292 [.ref 65, .int x1, .int x2] (jh (jSrd S rd) σ) Q := by
  refine ⟨jm_i292, jm_at292, rfl, rfl, ?_⟩
  show jx_Ex _ jm_l292 jm_b292_0 [.ref 65, .int x1, .int x2, .retAddr 0, .retAddr 0, .retAddr 0] [] _ _
  unfold f_X11_claims at h
  refine xo_2 rfl ?_
  refine xm_33 (i := 4160) (q := 66) (jSrd_ok hS rd) ly65 rfl (xm_P (jSrd_ok hS rd) (by decide)) ?_
  refine xo_2 rfl ?_
  refine xm_33 (i := 4194) (q := 82) (jSrd_ok hS rd) ly65 rfl (xm_P (jSrd_ok hS rd) (by decide)) ?_
  refine xo_8 ?_
  refine xo_50 (st' := []) rfl rfl rfl (Nat.le_of_ble_eq_true rfl) ?_
  refine t_X11_lay_66_82 hS ?_
  refine jw_mono (jw_bind h) (fun q1 h => ?_)
  show jx_Ex _ _ _ _ [] (jh (jSrd S rd) q1.2) _
  refine xo_2 rfl ?_
  refine xm_33 (i := 4194) (q := 82) (jSrd_ok hS rd) ly65 rfl (xm_P (jSrd_ok hS rd) (by decide)) ?_
  refine xo_8 ?_
  refine xm_38 (j := 0) (v := (q1.2.2 82 0)) (jSrd_ok hS rd) ly82 ⟨Nat.le_of_ble_eq_true rfl, Nat.le_of_ble_eq_true rfl⟩ (by decide) (by decide) rfl ?_
  refine xo_4 (ls' := [.ref 65, .int x1, .int x2, .int (q1.2.2 82 0), .retAddr 0, .retAddr 0]) rfl ?_
  refine xo_0 rfl ?_
  refine xo_56 (t := jm_b292_27) rfl (fun hc2 => ?_) (fun hc2 => ?_)
  · replace h := jw_pos hc2 h
    refine xo_2 rfl ?_
    refine xo_2 rfl ?_
    refine xm_33 (i := 4194) (q := 82) (jSrd_ok hS rd) ly65 rfl (xm_P (jSrd_ok hS rd) (by decide)) ?_
    refine xo_2 rfl ?_
    refine xm_33 (i := 4194) (q := 82) (jSrd_ok hS rd) ly65 rfl (xm_P (jSrd_ok hS rd) (by decide)) ?_
    refine xo_8 ?_
    refine xm_38 (j := 1) (v := (q1.2.2 82 1)) (jSrd_ok hS rd) ly82 ⟨Nat.le_of_ble_eq_true rfl, Nat.le_of_ble_eq_true rfl⟩ (by decide) (by decide) rfl ?_
    refine xo_0 rfl ?_
    refine xo_49 (st' := []) rfl rfl (xm_ly (jSrd_ok hS rd) ly65) rfl (Nat.le_of_ble_eq_true rfl) ?_
    refine t_X11_viewOf_82 hS ?_
    refine jw_mono (jw_bind h) (fun q3 h => ?_)
    show jx_Ex _ _ _ _ [.int q3.1] (jh (jSrd S rd) q3.2) _
    exact t_X11_claims_b42 hS h
  · replace h := jw_neg hc2 h
    refine xo_0 rfl ?_
    refine xo_54 (t := jm_b292_42) rfl ?_
    exact t_X11_claims_b42 hS h
/-- OfDifferentMindsModel.lie, at ['m', 'int', 'int'] U -/
def f_X11_lie_b139 (k45 : Int32 → Int32 → Int32 → Int32 → Int32 → jT → Option (Int32 × jT)) (x1 : Int32) (x2 : Int32) (x3 : Int32) (x4 : Int32) (x5 : Int32) (σ : jT) : Option (Int32 × jT) :=
  k45 x1 x2 x3 x4 (x5 + 1) σ
def f_X11_lie_b112 (k45 : Int32 → Int32 → Int32 → Int32 → Int32 → jT → Option (Int32 × jT)) (x1 : Int32) (x2 : Int32) (x3 : Int32) (x4 : Int32) (x5 : Int32) (x6 : Int32) (σ : jT) : Option (Int32 × jT) :=
  if ¬ (σ.2 82 0) = x2 then
    f_X11_lie_b139 k45 x1 x2 x3 x4 x5 σ
  else
    if x6 < x4 then
      f_X11_lie_b139 k45 x1 x2 x5 x6 x5 σ
    else
      f_X11_lie_b139 k45 x1 x2 x3 x4 x5 σ
def f_X11_lie_b77 (k45 : Int32 → Int32 → Int32 → Int32 → Int32 → jT → Option (Int32 × jT)) : Nat → Int32 → Int32 → Int32 → Int32 → Int32 → Int32 → jT → Option (Int32 × jT)
  | 0, _, _, _, _, _, _, _ => none
  | n + 1, x1, x2, x3, x4, x5, x6, σ =>
    if (σ.2 82 0) = x2 then
      f_X11_lie_b112 k45 x1 x2 x3 x4 x5 x6 σ
    else
      if 200 ≤ x6 then
        f_X11_lie_b112 k45 x1 x2 x3 x4 x5 x6 σ
      else
        (f_X11_step_82 σ).bind fun q3 =>
        if q3.1 = 0 then
          f_X11_lie_b112 k45 x1 x2 x3 x4 x5 x6 q3.2
        else
          f_X11_lie_b77 k45 n x1 x2 x3 x4 x5 (x6 + 1) q3.2
def f_X11_lie_b45 : Nat → Int32 → Int32 → Int32 → Int32 → Int32 → jT → Option (Int32 × jT)
  | 0, _, _, _, _, _, _ => none
  | n + 1, x1, x2, x3, x4, x5, σ =>
    if jx_in (σ.2 66 0) 10 then
    if (σ.2 67 (σ.2 66 0).toNatClampNeg) ≤ x5 then
      if 0 ≤ x3 then
        (f_X11_tell x4 (gs σ 4171 0)).bind fun q4 =>
        some (x3, q4.2)
      else
        some ((-2), σ)
    else
      (f_X11_claims x1 x5 σ).bind fun q5 =>
      if ¬ q5.1 = 0 then
        f_X11_lie_b77 (f_X11_lie_b45 n) 1000 x1 x2 x3 x4 x5 1 q5.2
      else
        f_X11_lie_b139 (f_X11_lie_b45 n) x1 x2 x3 x4 x5 q5.2
    else none
def f_X11_lie (x1 : Int32) (x2 : Int32) (σ : jT) : Option (Int32 × jT) :=
  (f_X11_in x1 0 1 (gs σ 4172 0)).bind fun q1 =>
  if q1.1 = 0 then
    some ((-1), q1.2)
  else
    (f_X11_isPlace x2 q1.2).bind fun q3 =>
    if ¬ q3.1 = 0 then
      (f_X11_isRidden q3.2).bind fun q5 =>
      if ¬ q5.1 = 0 then
        f_X11_lie_b45 1000 x1 x2 (-2) 1000000 0 q5.2
      else
        some ((-2), q5.2)
    else
      some ((-1), q3.2)
theorem t_X11_lie_b139 {S : jS} (hS : jMok S) {d : Nat} {Q : Option Value → jx_H → Prop} {k45 : Int32 → Int32 → Int32 → Int32 → Int32 → jT → Option (Int32 × jT)} (hk45 : ∀ {rd : Value} {x1 : Int32} {x2 : Int32} {x3 : Int32} {x4 : Int32} {x5 : Int32} {w6 : Value} {σ : jT}, jw (k45 x1 x2 x3 x4 x5 σ) (fun q => ∀ rd : Value, Q (some (.int q.1)) (jh (jSrd S rd) q.2)) → jx_Ex (d + 107) jm_l295 jm_b295_45 [.ref 65, .int x1, .int x2, .int x3, .int x4, .int x5, w6] [] (jh (jSrd S rd) σ) Q) {rd : Value} {x1 : Int32} {x2 : Int32} {x3 : Int32} {x4 : Int32} {x5 : Int32} {w6 : Value} {σ : jT} (h : jw (f_X11_lie_b139 k45 x1 x2 x3 x4 x5 σ) (fun q => ∀ rd : Value, Q (some (.int q.1)) (jh (jSrd S rd) q.2))) : jx_Ex (d + 107) jm_l295 jm_b295_139 [.ref 65, .int x1, .int x2, .int x3, .int x4, .int x5, w6] [] (jh (jSrd S rd) σ) Q := by
  unfold f_X11_lie_b139 at h
  refine xo_13 (ls' := [.ref 65, .int x1, .int x2, .int x3, .int x4, .int (x5 + 1), w6]) rfl rfl ?_
  refine xo_54 (t := jm_b295_45) rfl ?_
  exact hk45 h
theorem t_X11_lie_b112 {S : jS} (hS : jMok S) {d : Nat} {Q : Option Value → jx_H → Prop} {k45 : Int32 → Int32 → Int32 → Int32 → Int32 → jT → Option (Int32 × jT)} (hk45 : ∀ {rd : Value} {x1 : Int32} {x2 : Int32} {x3 : Int32} {x4 : Int32} {x5 : Int32} {w6 : Value} {σ : jT}, jw (k45 x1 x2 x3 x4 x5 σ) (fun q => ∀ rd : Value, Q (some (.int q.1)) (jh (jSrd S rd) q.2)) → jx_Ex (d + 107) jm_l295 jm_b295_45 [.ref 65, .int x1, .int x2, .int x3, .int x4, .int x5, w6] [] (jh (jSrd S rd) σ) Q) {rd : Value} {x1 : Int32} {x2 : Int32} {x3 : Int32} {x4 : Int32} {x5 : Int32} {x6 : Int32} {σ : jT} (h : jw (f_X11_lie_b112 k45 x1 x2 x3 x4 x5 x6 σ) (fun q => ∀ rd : Value, Q (some (.int q.1)) (jh (jSrd S rd) q.2))) : jx_Ex (d + 107) jm_l295 jm_b295_112 [.ref 65, .int x1, .int x2, .int x3, .int x4, .int x5, .int x6] [] (jh (jSrd S rd) σ) Q := by
  unfold f_X11_lie_b112 at h
  refine xo_2 rfl ?_
  refine xm_33 (i := 4194) (q := 82) (jSrd_ok hS rd) ly65 rfl (xm_P (jSrd_ok hS rd) (by decide)) ?_
  refine xo_8 ?_
  refine xm_38 (j := 0) (v := (σ.2 82 0)) (jSrd_ok hS rd) ly82 ⟨Nat.le_of_ble_eq_true rfl, Nat.le_of_ble_eq_true rfl⟩ (by decide) (by decide) rfl ?_
  refine xo_0 rfl ?_
  refine xo_62 (t := jm_b295_139) rfl (fun hc1 => ?_) (fun hc1 => ?_)
  · replace h := jw_pos hc1 h
    exact t_X11_lie_b139 hS hk45 h
  · replace h := jw_neg hc1 h
    refine xo_1 rfl ?_
    refine xo_1 rfl ?_
    refine xo_63 (t := jm_b295_132) rfl (fun hc2 => ?_) (fun hc2 => ?_)
    · replace h := jw_pos hc2 h
      refine xo_1 rfl ?_
      refine xo_4 (ls' := [.ref 65, .int x1, .int x2, .int x5, .int x4, .int x5, .int x6]) rfl ?_
      refine xo_1 rfl ?_
      refine xo_5 (ls' := [.ref 65, .int x1, .int x2, .int x5, .int x6, .int x5, .int x6]) rfl ?_
      exact t_X11_lie_b139 hS hk45 h
    · replace h := jw_neg hc2 h
      refine xo_54 (t := jm_b295_139) rfl ?_
      exact t_X11_lie_b139 hS hk45 h
theorem t_X11_lie_b77 {S : jS} (hS : jMok S) {d : Nat} {Q : Option Value → jx_H → Prop} {k45 : Int32 → Int32 → Int32 → Int32 → Int32 → jT → Option (Int32 × jT)} (hk45 : ∀ {rd : Value} {x1 : Int32} {x2 : Int32} {x3 : Int32} {x4 : Int32} {x5 : Int32} {w6 : Value} {σ : jT}, jw (k45 x1 x2 x3 x4 x5 σ) (fun q => ∀ rd : Value, Q (some (.int q.1)) (jh (jSrd S rd) q.2)) → jx_Ex (d + 107) jm_l295 jm_b295_45 [.ref 65, .int x1, .int x2, .int x3, .int x4, .int x5, w6] [] (jh (jSrd S rd) σ) Q) : ∀ (n : Nat) {rd : Value} {x1 : Int32} {x2 : Int32} {x3 : Int32} {x4 : Int32} {x5 : Int32} {x6 : Int32} {σ : jT}, jw (f_X11_lie_b77 k45 n x1 x2 x3 x4 x5 x6 σ) (fun q => ∀ rd : Value, Q (some (.int q.1)) (jh (jSrd S rd) q.2)) → jx_Ex (d + 107) jm_l295 jm_b295_77 [.ref 65, .int x1, .int x2, .int x3, .int x4, .int x5, .int x6] [] (jh (jSrd S rd) σ) Q := by
  intro n
  induction n with
  | zero => intro rd x1 x2 x3 x4 x5 x6 σ h; exact jw_none h
  | succ n ih =>
    intro rd x1 x2 x3 x4 x5 x6 σ h
    rw [f_X11_lie_b77] at h
    refine xo_2 rfl ?_
    refine xm_33 (i := 4194) (q := 82) (jSrd_ok hS rd) ly65 rfl (xm_P (jSrd_ok hS rd) (by decide)) ?_
    refine xo_8 ?_
    refine xm_38 (j := 0) (v := (σ.2 82 0)) (jSrd_ok hS rd) ly82 ⟨Nat.le_of_ble_eq_true rfl, Nat.le_of_ble_eq_true rfl⟩ (by decide) (by decide) rfl ?_
    refine xo_0 rfl ?_
    refine xo_61 (t := jm_b295_112) rfl (fun hc1 => ?_) (fun hc1 => ?_)
    · replace h := jw_pos hc1 h
      exact t_X11_lie_b112 hS hk45 h
    · replace h := jw_neg hc1 h
      refine xo_1 rfl ?_
      refine xo_10 ?_
      refine xo_64 (t := jm_b295_112) rfl (fun hc2 => ?_) (fun hc2 => ?_)
      · replace h := jw_pos hc2 h
        exact t_X11_lie_b112 hS hk45 h
      · replace h := jw_neg hc2 h
        refine xo_2 rfl ?_
        refine xo_2 rfl ?_
        refine xm_33 (i := 4194) (q := 82) (jSrd_ok hS rd) ly65 rfl (xm_P (jSrd_ok hS rd) (by decide)) ?_
        refine xo_49 (st' := []) rfl rfl (xm_ly (jSrd_ok hS rd) ly65) rfl (Nat.le_of_ble_eq_true rfl) ?_
        refine t_X11_step_82 hS ?_
        refine jw_mono (jw_bind h) (fun q3 h rd4 => ?_)
        show jx_Ex _ _ _ _ [.int q3.1] (jh (jSrd S rd4) q3.2) _
        refine xo_55 (t := jm_b295_112) rfl (fun hc5 => ?_) (fun hc5 => ?_)
        · replace h := jw_pos hc5 h
          exact t_X11_lie_b112 hS hk45 h
        · replace h := jw_neg hc5 h
          refine xo_13 (ls' := [.ref 65, .int x1, .int x2, .int x3, .int x4, .int x5, .int (x6 + 1)]) rfl rfl ?_
          refine xo_54 (t := jm_b295_77) rfl ?_
          exact ih h
theorem t_X11_lie_b45 {S : jS} (hS : jMok S) {d : Nat} {Q : Option Value → jx_H → Prop} : ∀ (n : Nat) {rd : Value} {x1 : Int32} {x2 : Int32} {x3 : Int32} {x4 : Int32} {x5 : Int32} {w6 : Value} {σ : jT}, jw (f_X11_lie_b45 n x1 x2 x3 x4 x5 σ) (fun q => ∀ rd : Value, Q (some (.int q.1)) (jh (jSrd S rd) q.2)) → jx_Ex (d + 107) jm_l295 jm_b295_45 [.ref 65, .int x1, .int x2, .int x3, .int x4, .int x5, w6] [] (jh (jSrd S rd) σ) Q := by
  intro n
  induction n with
  | zero => intro rd x1 x2 x3 x4 x5 w6 σ h; exact jw_none h
  | succ n ih =>
    intro rd x1 x2 x3 x4 x5 w6 σ h
    rw [f_X11_lie_b45] at h
    refine xo_1 rfl ?_
    refine xo_2 rfl ?_
    refine xm_33 (i := 4162) (q := 67) (jSrd_ok hS rd) ly65 rfl (xm_P (jSrd_ok hS rd) (by decide)) ?_
    refine xo_2 rfl ?_
    refine xm_33 (i := 4160) (q := 66) (jSrd_ok hS rd) ly65 rfl (xm_P (jSrd_ok hS rd) (by decide)) ?_
    refine xo_8 ?_
    refine xm_38 (j := 0) (v := (σ.2 66 0)) (jSrd_ok hS rd) ly66 ⟨Nat.le_of_ble_eq_true rfl, Nat.le_of_ble_eq_true rfl⟩ (by decide) (by decide) rfl ?_
    obtain ⟨hi1, h⟩ := jw_chk h
    refine xm_38 (j := (σ.2 66 0).toNatClampNeg) (v := (σ.2 67 (σ.2 66 0).toNatClampNeg)) (jSrd_ok hS rd) ly67 ⟨Nat.le_of_ble_eq_true rfl, Nat.le_of_ble_eq_true rfl⟩ hi1 rfl rfl ?_
    refine xo_64 (t := jm_b295_145) rfl (fun hc2 => ?_) (fun hc2 => ?_)
    · replace h := jw_pos hc2 h
      refine xo_0 rfl ?_
      refine xo_58 (t := jm_b295_152) rfl (fun hc3 => ?_) (fun hc3 => ?_)
      · replace h := jw_pos hc3 h
        refine xo_2 rfl ?_
        refine xo_8 ?_
        refine xm_34 (i := 4171) (jSrd_ok hS rd) ly65 rfl ⟨Nat.le_of_ble_eq_true rfl, Nat.le_of_ble_eq_true rfl⟩ ?_
        refine xo_2 rfl ?_
        refine xo_1 rfl ?_
        refine xo_49 (st' := []) rfl rfl (xm_ly (jSrd_ok hS rd) ly65) rfl (Nat.le_of_ble_eq_true rfl) ?_
        refine t_X11_tell hS ?_
        refine jw_mono (jw_bind h) (fun q4 h => ?_)
        show jx_Ex _ _ _ _ [] (jh (jSrd S rd) q4.2) _
        refine xo_0 rfl ?_
        replace h := jw_some h
        exact xo_69 (h rd)
      · replace h := jw_neg hc3 h
        refine xo_9 ?_
        replace h := jw_some h
        exact xo_69 (h rd)
    · replace h := jw_neg hc2 h
      refine xo_2 rfl ?_
      refine xo_0 rfl ?_
      refine xo_1 rfl ?_
      refine xo_49 (st' := []) rfl rfl (xm_ly (jSrd_ok hS rd) ly65) rfl (Nat.le_of_ble_eq_true rfl) ?_
      refine t_X11_claims hS ?_
      refine jw_mono (jw_bind h) (fun q5 h rd6 => ?_)
      show jx_Ex _ _ _ _ [.int q5.1] (jh (jSrd S rd6) q5.2) _
      refine xo_56 (t := jm_b295_74) rfl (fun hc7 => ?_) (fun hc7 => ?_)
      · replace h := jw_pos hc7 h
        refine xo_8 ?_
        refine xo_5 (ls' := [.ref 65, .int x1, .int x2, .int x3, .int x4, .int x5, .int 1]) rfl ?_
        exact t_X11_lie_b77 hS ih 1000 h
      · replace h := jw_neg hc7 h
        refine xo_54 (t := jm_b295_139) rfl ?_
        exact t_X11_lie_b139 hS ih h
theorem t_X11_lie {S : jS} (hS : jMok S) {d : Nat} {Q : Option Value → jx_H → Prop} {rd : Value} {x1 : Int32} {x2 : Int32} {σ : jT} (h : jw (f_X11_lie x1 x2 σ) (fun q => ∀ rd : Value, Q (some (.int q.1)) (jh (jSrd S rd) q.2))) : jx_Sp (d + 107) 295 [.ref 65, .int x1, .int x2] (jh (jSrd S rd) σ) Q := by
  refine ⟨jm_i295, jm_at295, rfl, rfl, ?_⟩
  show jx_Ex _ jm_l295 jm_b295_0 [.ref 65, .int x1, .int x2, .retAddr 0, .retAddr 0, .retAddr 0, .retAddr 0] [] _ _
  unfold f_X11_lie at h
  refine xo_2 rfl ?_
  refine xo_8 ?_
  refine xm_34 (i := 4172) (jSrd_ok hS rd) ly65 rfl ⟨Nat.le_of_ble_eq_true rfl, Nat.le_of_ble_eq_true rfl⟩ ?_
  refine xo_0 rfl ?_
  refine xo_8 ?_
  refine xo_8 ?_
  refine xo_50 (st' := []) rfl rfl rfl (Nat.le_of_ble_eq_true rfl) ?_
  refine t_X11_in hS ?_
  refine jw_mono (jw_bind h) (fun q1 h => ?_)
  show jx_Ex _ _ _ _ [.int q1.1] (jh (jSrd S rd) q1.2) _
  refine xo_55 (t := jm_b295_22) rfl (fun hc2 => ?_) (fun hc2 => ?_)
  · replace h := jw_pos hc2 h
    refine xo_8 ?_
    replace h := jw_some h
    exact xo_69 (h rd)
  · replace h := jw_neg hc2 h
    refine xo_2 rfl ?_
    refine xo_0 rfl ?_
    refine xo_49 (st' := []) rfl rfl (xm_ly (jSrd_ok hS rd) ly65) rfl (Nat.le_of_ble_eq_true rfl) ?_
    refine t_X11_isPlace hS ?_
    refine jw_mono (jw_bind h) (fun q3 h => ?_)
    show jx_Ex _ _ _ _ [.int q3.1] (jh (jSrd S rd) q3.2) _
    refine xo_56 (t := jm_b295_24) rfl (fun hc4 => ?_) (fun hc4 => ?_)
    · replace h := jw_pos hc4 h
      refine xo_2 rfl ?_
      refine xo_49 (st' := []) rfl rfl (xm_ly (jSrd_ok hS rd) ly65) rfl (Nat.le_of_ble_eq_true rfl) ?_
      refine t_X11_isRidden hS ?_
      refine jw_mono (jw_bind h) (fun q5 h => ?_)
      show jx_Ex _ _ _ _ [.int q5.1] (jh (jSrd S rd) q5.2) _
      refine xo_56 (t := jm_b295_34) rfl (fun hc6 => ?_) (fun hc6 => ?_)
      · replace h := jw_pos hc6 h
        refine xo_9 ?_
        refine xo_4 (ls' := [.ref 65, .int x1, .int x2, .int (-2), .retAddr 0, .retAddr 0, .retAddr 0]) rfl ?_
        refine xo_12 ?_
        refine xo_5 (ls' := [.ref 65, .int x1, .int x2, .int (-2), .int 1000000, .retAddr 0, .retAddr 0]) rfl ?_
        refine xo_8 ?_
        refine xo_5 (ls' := [.ref 65, .int x1, .int x2, .int (-2), .int 1000000, .int 0, .retAddr 0]) rfl ?_
        exact t_X11_lie_b45 hS 1000 h
      · replace h := jw_neg hc6 h
        refine xo_9 ?_
        replace h := jw_some h
        exact xo_69 (h rd)
    · replace h := jw_neg hc4 h
      refine xo_8 ?_
      replace h := jw_some h
      exact xo_69 (h rd)
