/-! ===== methods as functions ===== -/
/-- OfDifferentMindsModel.rule, at ['m'] U -/
def f_X11_rule_b73 : Nat → Int32 → Int32 → jT → Option (Int32 × jT)
  | 0, _, _, _ => none
  | n + 1, x1, x2, σ =>
    if x1 ≤ x2 then
      some (0, (gs σ 4184 x1))
    else
      if jx_in x2 80 then
      if jx_in x2 40 then
      f_X11_rule_b73 n x1 (x2 + 1) (gA σ 77 x2.toNatClampNeg ((σ.2 71 x2.toNatClampNeg).toInt8.toInt32))
      else none
      else none
def f_X11_rule_b71 (x1 : Int32) (σ : jT) : Option (Int32 × jT) :=
  f_X11_rule_b73 1000 x1 0 σ
def f_X11_rule_b57 (x1 : Int32) (σ : jT) : Option (Int32 × jT) :=
  (f_X11_fine σ).bind fun q1 =>
  if ¬ q1.1 = 0 then
    f_X11_rule_b71 x1 q1.2
  else
    some (((-1) - (q1.2.1 4177)), q1.2)
def f_X11_rule (σ : jT) : Option (Int32 × jT) :=
  (f_X11_begin_71 (σ.1 4169) 40 (gs σ 4172 0)).bind fun q1 =>
  if (σ.1 4169) ≤ 0 then
    f_X11_rule_b71 (σ.1 4169) (gs (gs q1.2 4169 0) 4185 0)
  else
    (f_rec2 100 3 [0] (gs (gs q1.2 4169 0) 4185 0)).bind fun q3 =>
    if (σ.1 4169) ≤ (q3.2.1 4176) then
      f_X11_rule_b57 (σ.1 4169) q3.2
    else
      (f_X11_fault (q3.2.1 4176) q3.2).bind fun q5 =>
      f_X11_rule_b57 (σ.1 4169) q5.2
theorem t_X11_rule_b73 {S : jS} (hS : jMok S) {d : Nat} {Q : Option Value → jx_H → Prop} : ∀ (n : Nat) {x1 : Int32} {x2 : Int32} {σ : jT}, jw (f_X11_rule_b73 n x1 x2 σ) (fun q => ∀ rd : Value, Q (some (.int q.1)) (jh (jSrd S rd) q.2)) → jx_Ex (d + 104) jm_l230 jm_b230_73 [.ref 65, .int x1, .int x2] [] (jh (jSrd S (.ref 71)) σ) Q := by
  intro n
  induction n with
  | zero => intro x1 x2 σ h; exact jw_none h
  | succ n ih =>
    intro x1 x2 σ h
    rw [f_X11_rule_b73] at h
    refine xo_0 rfl ?_
    refine xo_0 rfl ?_
    refine xo_64 (t := jm_b230_96) rfl (fun hc1 => ?_) (fun hc1 => ?_)
    · replace h := jw_pos hc1 h
      refine xo_2 rfl ?_
      refine xo_0 rfl ?_
      refine xm_34 (i := 4184) (jSrd_ok hS (.ref 71)) ly65 rfl ⟨Nat.le_of_ble_eq_true rfl, Nat.le_of_ble_eq_true rfl⟩ ?_
      refine xo_8 ?_
      replace h := jw_some h
      exact xo_69 (h (.ref 71))
    · replace h := jw_neg hc1 h
      refine xo_2 rfl ?_
      refine xm_33 (i := 4183) (q := 77) (jSrd_ok hS (.ref 71)) ly65 rfl (xm_P (jSrd_ok hS (.ref 71)) (by decide)) ?_
      refine xo_0 rfl ?_
      refine xo_2 rfl ?_
      refine xm_33 (i := 4168) (q := 71) (jSrd_ok hS (.ref 71)) ly65 rfl (xm_P (jSrd_ok hS (.ref 71)) (by decide)) ?_
      refine xo_0 rfl ?_
      obtain ⟨hi2, h⟩ := jw_chk h
      refine xm_39 (j := x2.toNatClampNeg) (v := (σ.2 71 x2.toNatClampNeg)) (jSrd_ok hS (.ref 71)) (Or.inl ly71) ⟨Nat.le_of_ble_eq_true rfl, Nat.le_of_ble_eq_true rfl⟩ hi2 rfl rfl ?_
      obtain ⟨hi3, h⟩ := jw_chk h
      refine xm_42b (j := x2.toNatClampNeg) (jSrd_ok hS (.ref 71)) ly77 ⟨Nat.le_of_ble_eq_true rfl, Nat.le_of_ble_eq_true rfl⟩ hi3 rfl ?_
      refine xo_13 (ls' := [.ref 65, .int x1, .int (x2 + 1)]) rfl rfl ?_
      refine xo_54 (t := jm_b230_73) rfl ?_
      exact ih h
theorem t_X11_rule_b71 {S : jS} (hS : jMok S) {d : Nat} {Q : Option Value → jx_H → Prop} {x1 : Int32} {w2 : Value} {σ : jT} (h : jw (f_X11_rule_b71 x1 σ) (fun q => ∀ rd : Value, Q (some (.int q.1)) (jh (jSrd S rd) q.2))) : jx_Ex (d + 104) jm_l230 jm_b230_71 [.ref 65, .int x1, w2] [] (jh (jSrd S (.ref 71)) σ) Q := by
  unfold f_X11_rule_b71 at h
  refine xo_8 ?_
  refine xo_4 (ls' := [.ref 65, .int x1, .int 0]) rfl ?_
  exact t_X11_rule_b73 hS 1000 h
theorem t_X11_rule_b57 {S : jS} (hS : jMok S) {d : Nat} {Q : Option Value → jx_H → Prop} {x1 : Int32} {w2 : Value} {σ : jT} (h : jw (f_X11_rule_b57 x1 σ) (fun q => ∀ rd : Value, Q (some (.int q.1)) (jh (jSrd S rd) q.2))) : jx_Ex (d + 104) jm_l230 jm_b230_57 [.ref 65, .int x1, w2] [] (jh (jSrd S (.ref 71)) σ) Q := by
  unfold f_X11_rule_b57 at h
  refine xo_2 rfl ?_
  refine xo_49 (st' := []) rfl rfl (xm_ly (jSrd_ok hS (.ref 71)) ly65) rfl (Nat.le_of_ble_eq_true rfl) ?_
  refine t_X11_fine hS ?_
  refine jw_mono (jw_bind h) (fun q1 h => ?_)
  show jx_Ex _ _ _ _ [.int q1.1] (jh (jSrd S (.ref 71)) q1.2) _
  refine xo_56 (t := jm_b230_71) rfl (fun hc2 => ?_) (fun hc2 => ?_)
  · replace h := jw_pos hc2 h
    exact t_X11_rule_b71 hS h
  · replace h := jw_neg hc2 h
    refine xo_8 ?_
    refine xo_2 rfl ?_
    refine xm_32 (i := 4177) (v := (q1.2.1 4177)) (jSrd_ok hS (.ref 71)) ly65 rfl ⟨Nat.le_of_ble_eq_true rfl, Nat.le_of_ble_eq_true rfl⟩ rfl ?_
    refine xo_15 ?_
    replace h := jw_some h
    exact xo_69 (h (.ref 71))
theorem t_X11_rule {S : jS} (hS : jMok S) {d : Nat} {Q : Option Value → jx_H → Prop} {rd : Value} {σ : jT} (h : jw (f_X11_rule σ) (fun q => ∀ rd : Value, Q (some (.int q.1)) (jh (jSrd S rd) q.2))) : jx_Sp (d + 104) 230 [.ref 65] (jh (jSrd S rd) σ) Q := by
  refine ⟨jm_i230, jm_at230, rfl, rfl, ?_⟩
  show jx_Ex _ jm_l230 jm_b230_0 [.ref 65, .retAddr 0, .retAddr 0] [] _ _
  unfold f_X11_rule at h
  refine xo_2 rfl ?_
  refine xo_8 ?_
  refine xm_34 (i := 4172) (jSrd_ok hS rd) ly65 rfl ⟨Nat.le_of_ble_eq_true rfl, Nat.le_of_ble_eq_true rfl⟩ ?_
  refine xo_2 rfl ?_
  refine xm_32 (i := 4169) (v := (σ.1 4169)) (jSrd_ok hS rd) ly65 rfl ⟨Nat.le_of_ble_eq_true rfl, Nat.le_of_ble_eq_true rfl⟩ rfl ?_
  refine xo_4 (ls' := [.ref 65, .int (σ.1 4169), .retAddr 0]) rfl ?_
  refine xo_2 rfl ?_
  refine xo_2 rfl ?_
  refine xm_33 (i := 4168) (q := 71) (jSrd_ok hS rd) ly65 rfl (xm_P (jSrd_ok hS rd) (by decide)) ?_
  refine xo_0 rfl ?_
  refine xo_9 ?_
  refine xo_49 (st' := []) rfl rfl (xm_ly (jSrd_ok hS rd) ly65) rfl (Nat.le_of_ble_eq_true rfl) ?_
  refine t_X11_begin_71 hS ?_
  refine jw_mono (jw_bind h) (fun q1 h => ?_)
  show jx_Ex _ _ _ _ [] (jh (jSrd S (.ref 71)) q1.2) _
  refine xo_2 rfl ?_
  refine xo_8 ?_
  refine xm_34 (i := 4169) (jSrd_ok hS (.ref 71)) ly65 rfl ⟨Nat.le_of_ble_eq_true rfl, Nat.le_of_ble_eq_true rfl⟩ ?_
  refine xo_2 rfl ?_
  refine xo_8 ?_
  refine xm_35 (i := 4185) (jSrd_ok hS (.ref 71)) ly65 rfl ⟨Nat.le_of_ble_eq_true rfl, Nat.le_of_ble_eq_true rfl⟩ (by decide) ?_
  refine xo_0 rfl ?_
  refine xo_60 (t := jm_b230_71) rfl (fun hc2 => ?_) (fun hc2 => ?_)
  · replace h := jw_pos hc2 h
    exact t_X11_rule_b71 hS h
  · replace h := jw_neg hc2 h
    refine xo_2 rfl ?_
    refine xo_8 ?_
    refine xo_49 (st' := []) rfl rfl (xm_ly (jSrd_ok hS (.ref 71)) ly65) rfl (Nat.le_of_ble_eq_true rfl) ?_
    refine tr_X11_held_T hS ?_
    refine jw_mono (jw_bind h) (fun q3 h => ?_)
    show jx_Ex _ _ _ _ [.int q3.1] (jh (jSrd S (.ref 71)) q3.2) _
    refine xo_31 ?_
    refine xo_2 rfl ?_
    refine xm_32 (i := 4176) (v := (q3.2.1 4176)) (jSrd_ok hS (.ref 71)) ly65 rfl ⟨Nat.le_of_ble_eq_true rfl, Nat.le_of_ble_eq_true rfl⟩ rfl ?_
    refine xo_0 rfl ?_
    refine xo_64 (t := jm_b230_57) rfl (fun hc4 => ?_) (fun hc4 => ?_)
    · replace h := jw_pos hc4 h
      exact t_X11_rule_b57 hS h
    · replace h := jw_neg hc4 h
      refine xo_2 rfl ?_
      refine xo_2 rfl ?_
      refine xm_32 (i := 4176) (v := (q3.2.1 4176)) (jSrd_ok hS (.ref 71)) ly65 rfl ⟨Nat.le_of_ble_eq_true rfl, Nat.le_of_ble_eq_true rfl⟩ rfl ?_
      refine xo_49 (st' := []) rfl rfl (xm_ly (jSrd_ok hS (.ref 71)) ly65) rfl (Nat.le_of_ble_eq_true rfl) ?_
      refine t_X11_fault hS ?_
      refine jw_mono (jw_bind h) (fun q5 h => ?_)
      show jx_Ex _ _ _ _ [] (jh (jSrd S (.ref 71)) q5.2) _
      exact t_X11_rule_b57 hS h
/-- OfDifferentMindsModel.isPlace, at ['m', 'int'] K -/
def f_X11_isPlace (x1 : Int32) (σ : jT) : Option (Int32 × jT) :=
  (f_X11_in x1 0 ((σ.1 4161) - 1) σ).bind fun q1 =>
  if q1.1 = 0 ∨ q1.1 = 1 then
  some (q1.1, q1.2)
  else none
theorem t_X11_isPlace {S : jS} (hS : jMok S) {d : Nat} {Q : Option Value → jx_H → Prop} {rd : Value} {x1 : Int32} {σ : jT} (h : jw (f_X11_isPlace x1 σ) (fun q => Q (some (.int q.1)) (jh (jSrd S rd) q.2))) : jx_Sp (d + 1) 206 [.ref 65, .int x1] (jh (jSrd S rd) σ) Q := by
  refine ⟨jm_i206, jm_at206, rfl, rfl, ?_⟩
  show jx_Ex _ jm_l206 jm_b206_0 [.ref 65, .int x1] [] _ _
  unfold f_X11_isPlace at h
  refine xo_0 rfl ?_
  refine xo_8 ?_
  refine xo_2 rfl ?_
  refine xm_32 (i := 4161) (v := (σ.1 4161)) (jSrd_ok hS rd) ly65 rfl ⟨Nat.le_of_ble_eq_true rfl, Nat.le_of_ble_eq_true rfl⟩ rfl ?_
  refine xo_8 ?_
  refine xo_15 ?_
  refine xo_50 (st' := []) rfl rfl rfl (Nat.le_of_ble_eq_true rfl) ?_
  refine t_X11_in hS ?_
  refine jw_mono (jw_bind h) (fun q1 h => ?_)
  show jx_Ex _ _ _ _ [.int q1.1] (jh (jSrd S rd) q1.2) _
  obtain ⟨hz2, h⟩ := jw_chk h
  replace h := jw_some h
  exact xo_70 hz2 h
/-- OfDifferentMindsModel.lost, at ['m'] K -/
def f_X11_lost (σ : jT) : Option (Int32 × jT) :=
  some (0, (gs σ 4172 1))
theorem t_X11_lost {S : jS} (hS : jMok S) {d : Nat} {Q : Option Value → jx_H → Prop} {rd : Value} {σ : jT} (h : jw (f_X11_lost σ) (fun q => Q (some (.int q.1)) (jh (jSrd S rd) q.2))) : jx_Sp (d) 204 [.ref 65] (jh (jSrd S rd) σ) Q := by
  refine ⟨jm_i204, jm_at204, rfl, rfl, ?_⟩
  show jx_Ex _ jm_l204 jm_b204_0 [.ref 65] [] _ _
  unfold f_X11_lost at h
  refine xo_2 rfl ?_
  refine xo_8 ?_
  refine xm_34 (i := 4172) (jSrd_ok hS rd) ly65 rfl ⟨Nat.le_of_ble_eq_true rfl, Nat.le_of_ble_eq_true rfl⟩ ?_
  refine xo_8 ?_
  replace h := jw_some h
  exact xo_69 h
/-- OfDifferentMindsModel.place, at ['m', 'int', 'int'] K -/
def f_X11_place_b22 (σ : jT) : Option (Int32 × jT) :=
  (f_X11_lost σ).bind fun q1 =>
  some (q1.1, q1.2)
def f_X11_place_b107 (k75 : Int32 → Int32 → Int32 → jT → Option (Int32 × jT)) (x1 : Int32) (x4 : Int32) (s0 : Int32) (s1 : Int32) (σ : jT) : Option (Int32 × jT) :=
  k75 x1 (s1 ||| s0) (x4 + 1) σ
def f_X11_place_b75 : Nat → Int32 → Int32 → Int32 → jT → Option (Int32 × jT)
  | 0, _, _, _, _ => none
  | n + 1, x1, x3, x4, σ =>
    if (σ.1 4165) ≤ x4 then
      some (x3, σ)
    else
      if jx_in (10 + x4) 28 then
      if ¬ (σ.2 66 (10 + x4).toNatClampNeg) = x1 then
        f_X11_place_b107 (f_X11_place_b75 n) x1 x4 0 x3 σ
      else
        f_X11_place_b107 (f_X11_place_b75 n) x1 x4 (1 <<< (x4 &&& 31)) x3 σ
      else none
def f_X11_place (x1 : Int32) (x2 : Int32) (σ : jT) : Option (Int32 × jT) :=
  (f_X11_isPlace x1 (gs σ 4172 0)).bind fun q1 =>
  if q1.1 = 0 then
    f_X11_place_b22 q1.2
  else
    (f_X11_in x2 0 5 q1.2).bind fun q3 =>
    if ¬ q3.1 = 0 then
      if ¬ x2 = 0 then
        if 4 ≤ x2 then
          if ¬ x2 = 4 then
            f_X11_place_b75 1000 x1 0 0 q3.2
          else
            some ((((q3.2.1 4164) >>> (x1 &&& 31)) &&& 1), q3.2)
        else
          if jx_in (((3 * x1) + x2) - 1) 30 then
          some ((q3.2.2 68 (((3 * x1) + x2) - 1).toNatClampNeg), q3.2)
          else none
      else
        if jx_in x1 10 then
        some ((q3.2.2 67 x1.toNatClampNeg), q3.2)
        else none
    else
      f_X11_place_b22 q3.2
theorem t_X11_place_b22 {S : jS} (hS : jMok S) {d : Nat} {Q : Option Value → jx_H → Prop} {rd : Value} {w1 : Value} {w2 : Value} {w3 : Value} {w4 : Value} {σ : jT} (h : jw (f_X11_place_b22 σ) (fun q => Q (some (.int q.1)) (jh (jSrd S rd) q.2))) : jx_Ex (d + 2) jm_l237 jm_b237_22 [.ref 65, w1, w2, w3, w4] [] (jh (jSrd S rd) σ) Q := by
  unfold f_X11_place_b22 at h
  refine xo_2 rfl ?_
  refine xo_49 (st' := []) rfl rfl (xm_ly (jSrd_ok hS rd) ly65) rfl (Nat.le_of_ble_eq_true rfl) ?_
  refine t_X11_lost hS ?_
  refine jw_mono (jw_bind h) (fun q1 h => ?_)
  show jx_Ex _ _ _ _ [.int q1.1] (jh (jSrd S rd) q1.2) _
  replace h := jw_some h
  exact xo_69 h
theorem t_X11_place_b107 {S : jS} (hS : jMok S) {d : Nat} {Q : Option Value → jx_H → Prop} {rd : Value} {k75 : Int32 → Int32 → Int32 → jT → Option (Int32 × jT)} (hk75 : ∀ {x1 : Int32} {x3 : Int32} {x4 : Int32} {w2 : Value} {σ : jT}, jw (k75 x1 x3 x4 σ) (fun q => Q (some (.int q.1)) (jh (jSrd S rd) q.2)) → jx_Ex (d + 2) jm_l237 jm_b237_75 [.ref 65, .int x1, w2, .int x3, .int x4] [] (jh (jSrd S rd) σ) Q) {x1 : Int32} {x4 : Int32} {s0 : Int32} {s1 : Int32} {w2 : Value} {w3 : Value} {σ : jT} (h : jw (f_X11_place_b107 k75 x1 x4 s0 s1 σ) (fun q => Q (some (.int q.1)) (jh (jSrd S rd) q.2))) : jx_Ex (d + 2) jm_l237 jm_b237_107 [.ref 65, .int x1, w2, w3, .int x4] [.int s0, .int s1] (jh (jSrd S rd) σ) Q := by
  unfold f_X11_place_b107 at h
  refine xo_21 ?_
  refine xo_4 (ls' := [.ref 65, .int x1, w2, .int (s1 ||| s0), .int x4]) rfl ?_
  refine xo_13 (ls' := [.ref 65, .int x1, w2, .int (s1 ||| s0), .int (x4 + 1)]) rfl rfl ?_
  refine xo_54 (t := jm_b237_75) rfl ?_
  exact hk75 h
theorem t_X11_place_b75 {S : jS} (hS : jMok S) {d : Nat} {Q : Option Value → jx_H → Prop} {rd : Value} : ∀ (n : Nat) {x1 : Int32} {x3 : Int32} {x4 : Int32} {w2 : Value} {σ : jT}, jw (f_X11_place_b75 n x1 x3 x4 σ) (fun q => Q (some (.int q.1)) (jh (jSrd S rd) q.2)) → jx_Ex (d + 2) jm_l237 jm_b237_75 [.ref 65, .int x1, w2, .int x3, .int x4] [] (jh (jSrd S rd) σ) Q := by
  intro n
  induction n with
  | zero => intro x1 x3 x4 w2 σ h; exact jw_none h
  | succ n ih =>
    intro x1 x3 x4 w2 σ h
    rw [f_X11_place_b75] at h
    refine xo_1 rfl ?_
    refine xo_2 rfl ?_
    refine xm_32 (i := 4165) (v := (σ.1 4165)) (jSrd_ok hS rd) ly65 rfl ⟨Nat.le_of_ble_eq_true rfl, Nat.le_of_ble_eq_true rfl⟩ rfl ?_
    refine xo_64 (t := jm_b237_115) rfl (fun hc1 => ?_) (fun hc1 => ?_)
    · replace h := jw_pos hc1 h
      refine xo_0 rfl ?_
      replace h := jw_some h
      exact xo_69 h
    · replace h := jw_neg hc1 h
      refine xo_0 rfl ?_
      refine xo_2 rfl ?_
      refine xm_33 (i := 4160) (q := 66) (jSrd_ok hS rd) ly65 rfl (xm_P (jSrd_ok hS rd) (by decide)) ?_
      refine xo_9 ?_
      refine xo_1 rfl ?_
      refine xo_14 ?_
      obtain ⟨hi2, h⟩ := jw_chk h
      refine xm_38 (j := (10 + x4).toNatClampNeg) (v := (σ.2 66 (10 + x4).toNatClampNeg)) (jSrd_ok hS rd) ly66 ⟨Nat.le_of_ble_eq_true rfl, Nat.le_of_ble_eq_true rfl⟩ hi2 rfl rfl ?_
      refine xo_0 rfl ?_
      refine xo_62 (t := jm_b237_106) rfl (fun hc3 => ?_) (fun hc3 => ?_)
      · replace h := jw_pos hc3 h
        refine xo_8 ?_
        exact t_X11_place_b107 hS ih h
      · replace h := jw_neg hc3 h
        refine xo_8 ?_
        refine xo_1 rfl ?_
        refine xo_23 ?_
        refine xo_54 (t := jm_b237_107) rfl ?_
        exact t_X11_place_b107 hS ih h
theorem t_X11_place {S : jS} (hS : jMok S) {d : Nat} {Q : Option Value → jx_H → Prop} {rd : Value} {x1 : Int32} {x2 : Int32} {σ : jT} (h : jw (f_X11_place x1 x2 σ) (fun q => Q (some (.int q.1)) (jh (jSrd S rd) q.2))) : jx_Sp (d + 2) 237 [.ref 65, .int x1, .int x2] (jh (jSrd S rd) σ) Q := by
  refine ⟨jm_i237, jm_at237, rfl, rfl, ?_⟩
  show jx_Ex _ jm_l237 jm_b237_0 [.ref 65, .int x1, .int x2, .retAddr 0, .retAddr 0] [] _ _
  unfold f_X11_place at h
  refine xo_2 rfl ?_
  refine xo_8 ?_
  refine xm_34 (i := 4172) (jSrd_ok hS rd) ly65 rfl ⟨Nat.le_of_ble_eq_true rfl, Nat.le_of_ble_eq_true rfl⟩ ?_
  refine xo_2 rfl ?_
  refine xo_0 rfl ?_
  refine xo_49 (st' := []) rfl rfl (xm_ly (jSrd_ok hS rd) ly65) rfl (Nat.le_of_ble_eq_true rfl) ?_
  refine t_X11_isPlace hS ?_
  refine jw_mono (jw_bind h) (fun q1 h => ?_)
  show jx_Ex _ _ _ _ [.int q1.1] (jh (jSrd S rd) q1.2) _
  refine xo_55 (t := jm_b237_22) rfl (fun hc2 => ?_) (fun hc2 => ?_)
  · replace h := jw_pos hc2 h
    exact t_X11_place_b22 hS h
  · replace h := jw_neg hc2 h
    refine xo_0 rfl ?_
    refine xo_8 ?_
    refine xo_8 ?_
    refine xo_50 (st' := []) rfl rfl rfl (Nat.le_of_ble_eq_true rfl) ?_
    refine t_X11_in hS ?_
    refine jw_mono (jw_bind h) (fun q3 h => ?_)
    show jx_Ex _ _ _ _ [.int q3.1] (jh (jSrd S rd) q3.2) _
    refine xo_56 (t := jm_b237_27) rfl (fun hc4 => ?_) (fun hc4 => ?_)
    · replace h := jw_pos hc4 h
      refine xo_0 rfl ?_
      refine xo_56 (t := jm_b237_38) rfl (fun hc5 => ?_) (fun hc5 => ?_)
      · replace h := jw_pos hc5 h
        refine xo_0 rfl ?_
        refine xo_8 ?_
        refine xo_64 (t := jm_b237_56) rfl (fun hc6 => ?_) (fun hc6 => ?_)
        · replace h := jw_pos hc6 h
          refine xo_0 rfl ?_
          refine xo_8 ?_
          refine xo_62 (t := jm_b237_70) rfl (fun hc7 => ?_) (fun hc7 => ?_)
          · replace h := jw_pos hc7 h
            refine xo_8 ?_
            refine xo_4 (ls' := [.ref 65, .int x1, .int x2, .int 0, .retAddr 0]) rfl ?_
            refine xo_8 ?_
            refine xo_5 (ls' := [.ref 65, .int x1, .int x2, .int 0, .int 0]) rfl ?_
            exact t_X11_place_b75 hS 1000 h
          · replace h := jw_neg hc7 h
            refine xo_2 rfl ?_
            refine xm_32 (i := 4164) (v := (q3.2.1 4164)) (jSrd_ok hS rd) ly65 rfl ⟨Nat.le_of_ble_eq_true rfl, Nat.le_of_ble_eq_true rfl⟩ rfl ?_
            refine xo_0 rfl ?_
            refine xo_24 ?_
            refine xo_8 ?_
            refine xo_20 ?_
            replace h := jw_some h
            exact xo_69 h
        · replace h := jw_neg hc6 h
          refine xo_2 rfl ?_
          refine xm_33 (i := 4163) (q := 68) (jSrd_ok hS rd) ly65 rfl (xm_P (jSrd_ok hS rd) (by decide)) ?_
          refine xo_8 ?_
          refine xo_0 rfl ?_
          refine xo_16 ?_
          refine xo_0 rfl ?_
          refine xo_14 ?_
          refine xo_8 ?_
          refine xo_15 ?_
          obtain ⟨hi8, h⟩ := jw_chk h
          refine xm_38 (j := (((3 * x1) + x2) - 1).toNatClampNeg) (v := (q3.2.2 68 (((3 * x1) + x2) - 1).toNatClampNeg)) (jSrd_ok hS rd) ly68 ⟨Nat.le_of_ble_eq_true rfl, Nat.le_of_ble_eq_true rfl⟩ hi8 rfl rfl ?_
          replace h := jw_some h
          exact xo_69 h
      · replace h := jw_neg hc5 h
        refine xo_2 rfl ?_
        refine xm_33 (i := 4162) (q := 67) (jSrd_ok hS rd) ly65 rfl (xm_P (jSrd_ok hS rd) (by decide)) ?_
        refine xo_0 rfl ?_
        obtain ⟨hi9, h⟩ := jw_chk h
        refine xm_38 (j := x1.toNatClampNeg) (v := (q3.2.2 67 x1.toNatClampNeg)) (jSrd_ok hS rd) ly67 ⟨Nat.le_of_ble_eq_true rfl, Nat.le_of_ble_eq_true rfl⟩ hi9 rfl rfl ?_
        replace h := jw_some h
        exact xo_69 h
    · replace h := jw_neg hc4 h
      exact t_X11_place_b22 hS h
/-- OfDifferentMindsModel.isRider, at ['m', 'int'] K -/
def f_X11_isRider (x1 : Int32) (σ : jT) : Option (Int32 × jT) :=
  (f_X11_in x1 0 ((σ.1 4165) - 1) σ).bind fun q1 =>
  if q1.1 = 0 ∨ q1.1 = 1 then
  some (q1.1, q1.2)
  else none
theorem t_X11_isRider {S : jS} (hS : jMok S) {d : Nat} {Q : Option Value → jx_H → Prop} {rd : Value} {x1 : Int32} {σ : jT} (h : jw (f_X11_isRider x1 σ) (fun q => Q (some (.int q.1)) (jh (jSrd S rd) q.2))) : jx_Sp (d + 1) 207 [.ref 65, .int x1] (jh (jSrd S rd) σ) Q := by
  refine ⟨jm_i207, jm_at207, rfl, rfl, ?_⟩
  show jx_Ex _ jm_l207 jm_b207_0 [.ref 65, .int x1] [] _ _
  unfold f_X11_isRider at h
  refine xo_0 rfl ?_
  refine xo_8 ?_
  refine xo_2 rfl ?_
  refine xm_32 (i := 4165) (v := (σ.1 4165)) (jSrd_ok hS rd) ly65 rfl ⟨Nat.le_of_ble_eq_true rfl, Nat.le_of_ble_eq_true rfl⟩ rfl ?_
  refine xo_8 ?_
  refine xo_15 ?_
  refine xo_50 (st' := []) rfl rfl rfl (Nat.le_of_ble_eq_true rfl) ?_
  refine t_X11_in hS ?_
  refine jw_mono (jw_bind h) (fun q1 h => ?_)
  show jx_Ex _ _ _ _ [.int q1.1] (jh (jSrd S rd) q1.2) _
  obtain ⟨hz2, h⟩ := jw_chk h
  replace h := jw_some h
  exact xo_70 hz2 h
/-- OfDifferentMindsModel.viewOf, at ['m', 'm.now', 'int', 'int'] K -/
def f_X11_viewOf_66_b20 (x3 : Int32) (s0 : Int32) (σ : jT) : Option (Int32 × jT) :=
  if jx_in (22 + s0) 28 then
  if jx_in ((10 * (σ.2 66 (22 + s0).toNatClampNeg)) + x3) 60 then
  if jx_in x3 10 then
  if (σ.2 67 x3.toNatClampNeg) = 0 then none else
  some (((σ.2 70 ((10 * (σ.2 66 (22 + s0).toNatClampNeg)) + x3).toNatClampNeg) - (σ.2 70 ((10 * (σ.2 66 (22 + s0).toNatClampNeg)) + x3).toNatClampNeg) / (σ.2 67 x3.toNatClampNeg) * (σ.2 67 x3.toNatClampNeg)), σ)
  else none
  else none
  else none
def f_X11_viewOf_66 (x2 : Int32) (x3 : Int32) (σ : jT) : Option (Int32 × jT) :=
  if jx_in (16 + x2) 28 then
  if ¬ (σ.2 66 (16 + x2).toNatClampNeg) = (-1) then
    f_X11_viewOf_66_b20 x3 (σ.2 66 (16 + x2).toNatClampNeg) σ
  else
    f_X11_viewOf_66_b20 x3 x2 σ
  else none
theorem t_X11_viewOf_66_b20 {S : jS} (hS : jMok S) {d : Nat} {Q : Option Value → jx_H → Prop} {rd : Value} {x3 : Int32} {s0 : Int32} {w2 : Value} {w4 : Value} {σ : jT} (h : jw (f_X11_viewOf_66_b20 x3 s0 σ) (fun q => Q (some (.int q.1)) (jh (jSrd S rd) q.2))) : jx_Ex (d) jm_l232 jm_b232_20 [.ref 65, .ref 66, w2, .int x3, w4] [.int s0] (jh (jSrd S rd) σ) Q := by
  unfold f_X11_viewOf_66_b20 at h
  refine xo_5 (ls' := [.ref 65, .ref 66, w2, .int x3, .int s0]) rfl ?_
  refine xo_2 rfl ?_
  refine xm_33 (i := 4167) (q := 70) (jSrd_ok hS rd) ly65 rfl (xm_P (jSrd_ok hS rd) (by decide)) ?_
  refine xo_9 ?_
  refine xo_2 rfl ?_
  refine xo_9 ?_
  refine xo_1 rfl ?_
  refine xo_14 ?_
  obtain ⟨hi1, h⟩ := jw_chk h
  refine xm_38 (j := (22 + s0).toNatClampNeg) (v := (σ.2 66 (22 + s0).toNatClampNeg)) (jSrd_ok hS rd) ly66 ⟨Nat.le_of_ble_eq_true rfl, Nat.le_of_ble_eq_true rfl⟩ hi1 rfl rfl ?_
  refine xo_16 ?_
  refine xo_0 rfl ?_
  refine xo_14 ?_
  obtain ⟨hi2, h⟩ := jw_chk h
  refine xm_38 (j := ((10 * (σ.2 66 (22 + s0).toNatClampNeg)) + x3).toNatClampNeg) (v := (σ.2 70 ((10 * (σ.2 66 (22 + s0).toNatClampNeg)) + x3).toNatClampNeg)) (jSrd_ok hS rd) ly70 ⟨Nat.le_of_ble_eq_true rfl, Nat.le_of_ble_eq_true rfl⟩ hi2 rfl rfl ?_
  refine xo_2 rfl ?_
  refine xm_33 (i := 4162) (q := 67) (jSrd_ok hS rd) ly65 rfl (xm_P (jSrd_ok hS rd) (by decide)) ?_
  refine xo_0 rfl ?_
  obtain ⟨hi3, h⟩ := jw_chk h
  refine xm_38 (j := x3.toNatClampNeg) (v := (σ.2 67 x3.toNatClampNeg)) (jSrd_ok hS rd) ly67 ⟨Nat.le_of_ble_eq_true rfl, Nat.le_of_ble_eq_true rfl⟩ hi3 rfl rfl ?_
  obtain ⟨hy4, h⟩ := jw_chn h
  refine xo_18 hy4 ?_
  replace h := jw_some h
  exact xo_69 h
theorem t_X11_viewOf_66 {S : jS} (hS : jMok S) {d : Nat} {Q : Option Value → jx_H → Prop} {rd : Value} {x2 : Int32} {x3 : Int32} {σ : jT} (h : jw (f_X11_viewOf_66 x2 x3 σ) (fun q => Q (some (.int q.1)) (jh (jSrd S rd) q.2))) : jx_Sp (d) 232 [.ref 65, .ref 66, .int x2, .int x3] (jh (jSrd S rd) σ) Q := by
  refine ⟨jm_i232, jm_at232, rfl, rfl, ?_⟩
  show jx_Ex _ jm_l232 jm_b232_0 [.ref 65, .ref 66, .int x2, .int x3, .retAddr 0] [] _ _
  unfold f_X11_viewOf_66 at h
  refine xo_2 rfl ?_
  refine xo_9 ?_
  refine xo_0 rfl ?_
  refine xo_14 ?_
  obtain ⟨hi1, h⟩ := jw_chk h
  refine xm_38 (j := (16 + x2).toNatClampNeg) (v := (σ.2 66 (16 + x2).toNatClampNeg)) (jSrd_ok hS rd) ly66 ⟨Nat.le_of_ble_eq_true rfl, Nat.le_of_ble_eq_true rfl⟩ hi1 rfl rfl ?_
  refine xo_8 ?_
  refine xo_62 (t := jm_b232_14) rfl (fun hc2 => ?_) (fun hc2 => ?_)
  · replace h := jw_pos hc2 h
    refine xo_2 rfl ?_
    refine xo_9 ?_
    refine xo_0 rfl ?_
    refine xo_14 ?_
    refine xm_38 (j := (16 + x2).toNatClampNeg) (v := (σ.2 66 (16 + x2).toNatClampNeg)) (jSrd_ok hS rd) ly66 ⟨Nat.le_of_ble_eq_true rfl, Nat.le_of_ble_eq_true rfl⟩ hi1 rfl rfl ?_
    exact t_X11_viewOf_66_b20 hS h
  · replace h := jw_neg hc2 h
    refine xo_0 rfl ?_
    refine xo_54 (t := jm_b232_20) rfl ?_
    exact t_X11_viewOf_66_b20 hS h
/-- OfDifferentMindsModel.isOn, at ['m.now', 'int'] K -/
def f_X11_isOn_66_b14 (σ : jT) : Option (Int32 × jT) :=
  some (1, σ)
def f_X11_isOn_66 (x1 : Int32) (σ : jT) : Option (Int32 × jT) :=
  if (σ.2 66 1) = x1 then
    f_X11_isOn_66_b14 σ
  else
    if ¬ (σ.2 66 2) = x1 then
      some (0, σ)
    else
      f_X11_isOn_66_b14 σ
theorem t_X11_isOn_66_b14 {S : jS} (hS : jMok S) {d : Nat} {Q : Option Value → jx_H → Prop} {rd : Value} {w0 : Value} {w1 : Value} {σ : jT} (h : jw (f_X11_isOn_66_b14 σ) (fun q => Q (some (.int q.1)) (jh (jSrd S rd) q.2))) : jx_Ex (d) jm_l209 jm_b209_14 [w0, w1] [] (jh (jSrd S rd) σ) Q := by
  unfold f_X11_isOn_66_b14 at h
  refine xo_8 ?_
  refine xo_54 (t := jm_b209_19) rfl ?_
  replace h := jw_some h
  exact xo_70 (by decide) h
theorem t_X11_isOn_66 {S : jS} (hS : jMok S) {d : Nat} {Q : Option Value → jx_H → Prop} {rd : Value} {x1 : Int32} {σ : jT} (h : jw (f_X11_isOn_66 x1 σ) (fun q => Q (some (.int q.1)) (jh (jSrd S rd) q.2))) : jx_Sp (d) 209 [.ref 66, .int x1] (jh (jSrd S rd) σ) Q := by
  refine ⟨jm_i209, jm_at209, rfl, rfl, ?_⟩
  show jx_Ex _ jm_l209 jm_b209_0 [.ref 66, .int x1] [] _ _
  unfold f_X11_isOn_66 at h
  refine xo_2 rfl ?_
  refine xo_8 ?_
  refine xm_38 (j := 1) (v := (σ.2 66 1)) (jSrd_ok hS rd) ly66 ⟨Nat.le_of_ble_eq_true rfl, Nat.le_of_ble_eq_true rfl⟩ (by decide) (by decide) rfl ?_
  refine xo_0 rfl ?_
  refine xo_61 (t := jm_b209_14) rfl (fun hc1 => ?_) (fun hc1 => ?_)
  · replace h := jw_pos hc1 h
    exact t_X11_isOn_66_b14 hS h
  · replace h := jw_neg hc1 h
    refine xo_2 rfl ?_
    refine xo_8 ?_
    refine xm_38 (j := 2) (v := (σ.2 66 2)) (jSrd_ok hS rd) ly66 ⟨Nat.le_of_ble_eq_true rfl, Nat.le_of_ble_eq_true rfl⟩ (by decide) (by decide) rfl ?_
    refine xo_0 rfl ?_
    refine xo_62 (t := jm_b209_18) rfl (fun hc2 => ?_) (fun hc2 => ?_)
    · replace h := jw_pos hc2 h
      refine xo_8 ?_
      replace h := jw_some h
      exact xo_70 (by decide) h
    · replace h := jw_neg hc2 h
      exact t_X11_isOn_66_b14 hS h
/-- OfDifferentMindsModel.rider, at ['m', 'int', 'int'] K -/
def f_X11_rider_b22 (σ : jT) : Option (Int32 × jT) :=
  (f_X11_lost σ).bind fun q1 =>
  some (q1.1, q1.2)
def f_X11_rider (x1 : Int32) (x2 : Int32) (σ : jT) : Option (Int32 × jT) :=
  (f_X11_isRider x1 (gs σ 4172 0)).bind fun q1 =>
  if q1.1 = 0 then
    f_X11_rider_b22 q1.2
  else
    (f_X11_in x2 0 5 q1.2).bind fun q3 =>
    if ¬ q3.1 = 0 then
      if x2 = 0 then
        if jx_in x1 6 then
        some ((q3.2.2 69 x1.toNatClampNeg), q3.2)
        else none
      else
      if x2 = 1 then
        if jx_in (4 + x1) 28 then
        some ((q3.2.2 66 (4 + x1).toNatClampNeg), q3.2)
        else none
      else
      if x2 = 2 then
        if jx_in (10 + x1) 28 then
        some ((q3.2.2 66 (10 + x1).toNatClampNeg), q3.2)
        else none
      else
      if x2 = 3 then
        if jx_in (16 + x1) 28 then
        some ((q3.2.2 66 (16 + x1).toNatClampNeg), q3.2)
        else none
      else
      if x2 = 4 then
        if jx_in (10 + x1) 28 then
        if jx_in (q3.2.2 66 (10 + x1).toNatClampNeg) 10 then
        if ¬ (q3.2.2 67 (q3.2.2 66 (10 + x1).toNatClampNeg).toNatClampNeg) = 0 then
          (f_X11_viewOf_66 x1 (q3.2.2 66 (10 + x1).toNatClampNeg) q3.2).bind fun q17 =>
          some (q17.1, q17.2)
        else
          some ((-1), q3.2)
        else none
        else none
      else
      (f_X11_isOn_66 x1 q3.2).bind fun q18 =>
      if q18.1 = 0 then
        some (0, q18.2)
      else
        some (1, q18.2)
    else
      f_X11_rider_b22 q3.2
theorem t_X11_rider_b22 {S : jS} (hS : jMok S) {d : Nat} {Q : Option Value → jx_H → Prop} {rd : Value} {w1 : Value} {w2 : Value} {σ : jT} (h : jw (f_X11_rider_b22 σ) (fun q => Q (some (.int q.1)) (jh (jSrd S rd) q.2))) : jx_Ex (d + 2) jm_l238 jm_b238_22 [.ref 65, w1, w2] [] (jh (jSrd S rd) σ) Q := by
  unfold f_X11_rider_b22 at h
  refine xo_2 rfl ?_
  refine xo_49 (st' := []) rfl rfl (xm_ly (jSrd_ok hS rd) ly65) rfl (Nat.le_of_ble_eq_true rfl) ?_
  refine t_X11_lost hS ?_
  refine jw_mono (jw_bind h) (fun q1 h => ?_)
  show jx_Ex _ _ _ _ [.int q1.1] (jh (jSrd S rd) q1.2) _
  replace h := jw_some h
  exact xo_69 h
theorem t_X11_rider {S : jS} (hS : jMok S) {d : Nat} {Q : Option Value → jx_H → Prop} {rd : Value} {x1 : Int32} {x2 : Int32} {σ : jT} (h : jw (f_X11_rider x1 x2 σ) (fun q => Q (some (.int q.1)) (jh (jSrd S rd) q.2))) : jx_Sp (d + 2) 238 [.ref 65, .int x1, .int x2] (jh (jSrd S rd) σ) Q := by
  refine ⟨jm_i238, jm_at238, rfl, rfl, ?_⟩
  show jx_Ex _ jm_l238 jm_b238_0 [.ref 65, .int x1, .int x2] [] _ _
  unfold f_X11_rider at h
  refine xo_2 rfl ?_
  refine xo_8 ?_
  refine xm_34 (i := 4172) (jSrd_ok hS rd) ly65 rfl ⟨Nat.le_of_ble_eq_true rfl, Nat.le_of_ble_eq_true rfl⟩ ?_
  refine xo_2 rfl ?_
  refine xo_0 rfl ?_
  refine xo_49 (st' := []) rfl rfl (xm_ly (jSrd_ok hS rd) ly65) rfl (Nat.le_of_ble_eq_true rfl) ?_
  refine t_X11_isRider hS ?_
  refine jw_mono (jw_bind h) (fun q1 h => ?_)
  show jx_Ex _ _ _ _ [.int q1.1] (jh (jSrd S rd) q1.2) _
  refine xo_55 (t := jm_b238_22) rfl (fun hc2 => ?_) (fun hc2 => ?_)
  · replace h := jw_pos hc2 h
    exact t_X11_rider_b22 hS h
  · replace h := jw_neg hc2 h
    refine xo_0 rfl ?_
    refine xo_8 ?_
    refine xo_8 ?_
    refine xo_50 (st' := []) rfl rfl rfl (Nat.le_of_ble_eq_true rfl) ?_
    refine t_X11_in hS ?_
    refine jw_mono (jw_bind h) (fun q3 h => ?_)
    show jx_Ex _ _ _ _ [.int q3.1] (jh (jSrd S rd) q3.2) _
    refine xo_56 (t := jm_b238_27) rfl (fun hc4 => ?_) (fun hc4 => ?_)
    · replace h := jw_pos hc4 h
      refine xo_0 rfl ?_
      refine xo_67 ?_
      refine xo_swc (tb := jm_b238_64) rfl (fun hc5 => ?_) (fun hc5 => ?_)
      · replace h := jw_pos hc5 h
        refine xo_2 rfl ?_
        refine xm_33 (i := 4166) (q := 69) (jSrd_ok hS rd) ly65 rfl (xm_P (jSrd_ok hS rd) (by decide)) ?_
        refine xo_0 rfl ?_
        obtain ⟨hi6, h⟩ := jw_chk h
        refine xm_38 (j := x1.toNatClampNeg) (v := (q3.2.2 69 x1.toNatClampNeg)) (jSrd_ok hS rd) ly69 ⟨Nat.le_of_ble_eq_true rfl, Nat.le_of_ble_eq_true rfl⟩ hi6 rfl rfl ?_
        replace h := jw_some h
        exact xo_69 h
      replace h := jw_neg hc5 h
      refine xo_swc (tb := jm_b238_71) rfl (fun hc7 => ?_) (fun hc7 => ?_)
      · replace h := jw_pos hc7 h
        refine xo_2 rfl ?_
        refine xm_33 (i := 4160) (q := 66) (jSrd_ok hS rd) ly65 rfl (xm_P (jSrd_ok hS rd) (by decide)) ?_
        refine xo_8 ?_
        refine xo_0 rfl ?_
        refine xo_14 ?_
        obtain ⟨hi8, h⟩ := jw_chk h
        refine xm_38 (j := (4 + x1).toNatClampNeg) (v := (q3.2.2 66 (4 + x1).toNatClampNeg)) (jSrd_ok hS rd) ly66 ⟨Nat.le_of_ble_eq_true rfl, Nat.le_of_ble_eq_true rfl⟩ hi8 rfl rfl ?_
        replace h := jw_some h
        exact xo_69 h
      replace h := jw_neg hc7 h
      refine xo_swc (tb := jm_b238_80) rfl (fun hc9 => ?_) (fun hc9 => ?_)
      · replace h := jw_pos hc9 h
        refine xo_2 rfl ?_
        refine xm_33 (i := 4160) (q := 66) (jSrd_ok hS rd) ly65 rfl (xm_P (jSrd_ok hS rd) (by decide)) ?_
        refine xo_9 ?_
        refine xo_0 rfl ?_
        refine xo_14 ?_
        obtain ⟨hi10, h⟩ := jw_chk h
        refine xm_38 (j := (10 + x1).toNatClampNeg) (v := (q3.2.2 66 (10 + x1).toNatClampNeg)) (jSrd_ok hS rd) ly66 ⟨Nat.le_of_ble_eq_true rfl, Nat.le_of_ble_eq_true rfl⟩ hi10 rfl rfl ?_
        replace h := jw_some h
        exact xo_69 h
      replace h := jw_neg hc9 h
      refine xo_swc (tb := jm_b238_90) rfl (fun hc11 => ?_) (fun hc11 => ?_)
      · replace h := jw_pos hc11 h
        refine xo_2 rfl ?_
        refine xm_33 (i := 4160) (q := 66) (jSrd_ok hS rd) ly65 rfl (xm_P (jSrd_ok hS rd) (by decide)) ?_
        refine xo_9 ?_
        refine xo_0 rfl ?_
        refine xo_14 ?_
        obtain ⟨hi12, h⟩ := jw_chk h
        refine xm_38 (j := (16 + x1).toNatClampNeg) (v := (q3.2.2 66 (16 + x1).toNatClampNeg)) (jSrd_ok hS rd) ly66 ⟨Nat.le_of_ble_eq_true rfl, Nat.le_of_ble_eq_true rfl⟩ hi12 rfl rfl ?_
        replace h := jw_some h
        exact xo_69 h
      replace h := jw_neg hc11 h
      refine xo_swc (tb := jm_b238_100) rfl (fun hc13 => ?_) (fun hc13 => ?_)
      · replace h := jw_pos hc13 h
        refine xo_2 rfl ?_
        refine xm_33 (i := 4162) (q := 67) (jSrd_ok hS rd) ly65 rfl (xm_P (jSrd_ok hS rd) (by decide)) ?_
        refine xo_2 rfl ?_
        refine xm_33 (i := 4160) (q := 66) (jSrd_ok hS rd) ly65 rfl (xm_P (jSrd_ok hS rd) (by decide)) ?_
        refine xo_9 ?_
        refine xo_0 rfl ?_
        refine xo_14 ?_
        obtain ⟨hi14, h⟩ := jw_chk h
        refine xm_38 (j := (10 + x1).toNatClampNeg) (v := (q3.2.2 66 (10 + x1).toNatClampNeg)) (jSrd_ok hS rd) ly66 ⟨Nat.le_of_ble_eq_true rfl, Nat.le_of_ble_eq_true rfl⟩ hi14 rfl rfl ?_
        obtain ⟨hi15, h⟩ := jw_chk h
        refine xm_38 (j := (q3.2.2 66 (10 + x1).toNatClampNeg).toNatClampNeg) (v := (q3.2.2 67 (q3.2.2 66 (10 + x1).toNatClampNeg).toNatClampNeg)) (jSrd_ok hS rd) ly67 ⟨Nat.le_of_ble_eq_true rfl, Nat.le_of_ble_eq_true rfl⟩ hi15 rfl rfl ?_
        refine xo_56 (t := jm_b238_121) rfl (fun hc16 => ?_) (fun hc16 => ?_)
        · replace h := jw_pos hc16 h
          refine xo_2 rfl ?_
          refine xo_2 rfl ?_
          refine xm_33 (i := 4160) (q := 66) (jSrd_ok hS rd) ly65 rfl (xm_P (jSrd_ok hS rd) (by decide)) ?_
          refine xo_0 rfl ?_
          refine xo_2 rfl ?_
          refine xm_33 (i := 4160) (q := 66) (jSrd_ok hS rd) ly65 rfl (xm_P (jSrd_ok hS rd) (by decide)) ?_
          refine xo_9 ?_
          refine xo_0 rfl ?_
          refine xo_14 ?_
          refine xm_38 (j := (10 + x1).toNatClampNeg) (v := (q3.2.2 66 (10 + x1).toNatClampNeg)) (jSrd_ok hS rd) ly66 ⟨Nat.le_of_ble_eq_true rfl, Nat.le_of_ble_eq_true rfl⟩ hi14 rfl rfl ?_
          refine xo_49 (st' := []) rfl rfl (xm_ly (jSrd_ok hS rd) ly65) rfl (Nat.le_of_ble_eq_true rfl) ?_
          refine t_X11_viewOf_66 hS ?_
          refine jw_mono (jw_bind h) (fun q17 h => ?_)
          show jx_Ex _ _ _ _ [.int q17.1] (jh (jSrd S rd) q17.2) _
          replace h := jw_some h
          exact xo_69 h
        · replace h := jw_neg hc16 h
          refine xo_8 ?_
          refine xo_54 (t := jm_b238_139) rfl ?_
          replace h := jw_some h
          exact xo_69 h
      replace h := jw_neg hc13 h
      refine xo_swn (tb := jm_b238_140) rfl ?_
      refine xo_2 rfl ?_
      refine xm_33 (i := 4160) (q := 66) (jSrd_ok hS rd) ly65 rfl (xm_P (jSrd_ok hS rd) (by decide)) ?_
      refine xo_0 rfl ?_
      refine xo_50 (st' := []) rfl rfl rfl (Nat.le_of_ble_eq_true rfl) ?_
      refine t_X11_isOn_66 hS ?_
      refine jw_mono (jw_bind h) (fun q18 h => ?_)
      show jx_Ex _ _ _ _ [.int q18.1] (jh (jSrd S rd) q18.2) _
      refine xo_55 (t := jm_b238_155) rfl (fun hc19 => ?_) (fun hc19 => ?_)
      · replace h := jw_pos hc19 h
        refine xo_8 ?_
        replace h := jw_some h
        exact xo_69 h
      · replace h := jw_neg hc19 h
        refine xo_8 ?_
        refine xo_54 (t := jm_b238_156) rfl ?_
        replace h := jw_some h
        exact xo_69 h
    · replace h := jw_neg hc4 h
      exact t_X11_rider_b22 hS h
/-- OfDifferentMindsModel.view, at ['m', 'int', 'int'] K -/
def f_X11_view (x1 : Int32) (x2 : Int32) (σ : jT) : Option (Int32 × jT) :=
  (f_X11_isRider x1 (gs σ 4172 0)).bind fun q1 =>
  if q1.1 = 0 then
    some ((-1), q1.2)
  else
    (f_X11_isPlace x2 q1.2).bind fun q3 =>
    if ¬ q3.1 = 0 then
      if jx_in x2 10 then
      if ¬ (q3.2.2 67 x2.toNatClampNeg) = 0 then
        (f_X11_viewOf_66 x1 x2 q3.2).bind fun q7 =>
        some (q7.1, q7.2)
      else
        some ((-2), q3.2)
      else none
    else
      some ((-1), q3.2)
theorem t_X11_view {S : jS} (hS : jMok S) {d : Nat} {Q : Option Value → jx_H → Prop} {rd : Value} {x1 : Int32} {x2 : Int32} {σ : jT} (h : jw (f_X11_view x1 x2 σ) (fun q => Q (some (.int q.1)) (jh (jSrd S rd) q.2))) : jx_Sp (d + 2) 239 [.ref 65, .int x1, .int x2] (jh (jSrd S rd) σ) Q := by
  refine ⟨jm_i239, jm_at239, rfl, rfl, ?_⟩
  show jx_Ex _ jm_l239 jm_b239_0 [.ref 65, .int x1, .int x2] [] _ _
  unfold f_X11_view at h
  refine xo_2 rfl ?_
  refine xo_8 ?_
  refine xm_34 (i := 4172) (jSrd_ok hS rd) ly65 rfl ⟨Nat.le_of_ble_eq_true rfl, Nat.le_of_ble_eq_true rfl⟩ ?_
  refine xo_2 rfl ?_
  refine xo_0 rfl ?_
  refine xo_49 (st' := []) rfl rfl (xm_ly (jSrd_ok hS rd) ly65) rfl (Nat.le_of_ble_eq_true rfl) ?_
  refine t_X11_isRider hS ?_
  refine jw_mono (jw_bind h) (fun q1 h => ?_)
  show jx_Ex _ _ _ _ [.int q1.1] (jh (jSrd S rd) q1.2) _
  refine xo_55 (t := jm_b239_21) rfl (fun hc2 => ?_) (fun hc2 => ?_)
  · replace h := jw_pos hc2 h
    refine xo_8 ?_
    replace h := jw_some h
    exact xo_69 h
  · replace h := jw_neg hc2 h
    refine xo_2 rfl ?_
    refine xo_0 rfl ?_
    refine xo_49 (st' := []) rfl rfl (xm_ly (jSrd_ok hS rd) ly65) rfl (Nat.le_of_ble_eq_true rfl) ?_
    refine t_X11_isPlace hS ?_
    refine jw_mono (jw_bind h) (fun q3 h => ?_)
    show jx_Ex _ _ _ _ [.int q3.1] (jh (jSrd S rd) q3.2) _
    refine xo_56 (t := jm_b239_23) rfl (fun hc4 => ?_) (fun hc4 => ?_)
    · replace h := jw_pos hc4 h
      refine xo_2 rfl ?_
      refine xm_33 (i := 4162) (q := 67) (jSrd_ok hS rd) ly65 rfl (xm_P (jSrd_ok hS rd) (by decide)) ?_
      refine xo_0 rfl ?_
      obtain ⟨hi5, h⟩ := jw_chk h
      refine xm_38 (j := x2.toNatClampNeg) (v := (q3.2.2 67 x2.toNatClampNeg)) (jSrd_ok hS rd) ly67 ⟨Nat.le_of_ble_eq_true rfl, Nat.le_of_ble_eq_true rfl⟩ hi5 rfl rfl ?_
      refine xo_56 (t := jm_b239_37) rfl (fun hc6 => ?_) (fun hc6 => ?_)
      · replace h := jw_pos hc6 h
        refine xo_2 rfl ?_
        refine xo_2 rfl ?_
        refine xm_33 (i := 4160) (q := 66) (jSrd_ok hS rd) ly65 rfl (xm_P (jSrd_ok hS rd) (by decide)) ?_
        refine xo_0 rfl ?_
        refine xo_0 rfl ?_
        refine xo_49 (st' := []) rfl rfl (xm_ly (jSrd_ok hS rd) ly65) rfl (Nat.le_of_ble_eq_true rfl) ?_
        refine t_X11_viewOf_66 hS ?_
        refine jw_mono (jw_bind h) (fun q7 h => ?_)
        show jx_Ex _ _ _ _ [.int q7.1] (jh (jSrd S rd) q7.2) _
        replace h := jw_some h
        exact xo_69 h
      · replace h := jw_neg hc6 h
        refine xo_9 ?_
        refine xo_54 (t := jm_b239_47) rfl ?_
        replace h := jw_some h
        exact xo_69 h
    · replace h := jw_neg hc4 h
      refine xo_8 ?_
      replace h := jw_some h
      exact xo_69 h
/-- OfDifferentMindsModel.sheet, at ['m', 'int', 'int', 'int', 'int'] K -/
def f_X11_sheet_b109 (k43 : Int32 → Int32 → Int32 → Int32 → Int32 → Int32 → jT → Option (Int32 × jT)) (x1 : Int32) (x2 : Int32) (x4 : Int32) (x5 : Int32) (x6 : Int32) (x7 : Int32) (s0 : Int32) (s1 : Int32) (σ : jT) : Option (Int32 × jT) :=
  if jx_in s1 6 then
  if jx_in (4 + x7) 28 then
  if jx_in x7 6 then
  k43 x1 x2 x4 (x5 + ((gA (gA σ 69 s1.toNatClampNeg s0) 66 (4 + x7).toNatClampNeg (jx_min (σ.2 66 (4 + x7).toNatClampNeg) ((gA σ 69 s1.toNatClampNeg s0).2 69 x7.toNatClampNeg))).2 69 x7.toNatClampNeg)) (x6 + x4) (x7 + 1) (gA (gA σ 69 s1.toNatClampNeg s0) 66 (4 + x7).toNatClampNeg (jx_min (σ.2 66 (4 + x7).toNatClampNeg) ((gA σ 69 s1.toNatClampNeg s0).2 69 x7.toNatClampNeg)))
  else none
  else none
  else none
def f_X11_sheet_b94 (k43 : Int32 → Int32 → Int32 → Int32 → Int32 → Int32 → jT → Option (Int32 × jT)) (x1 : Int32) (x2 : Int32) (x4 : Int32) (x5 : Int32) (x6 : Int32) (x7 : Int32) (s0 : Int32) (σ : jT) : Option (Int32 × jT) :=
  f_X11_sheet_b109 k43 x1 x2 x4 x5 x6 x7 1 s0 σ
def f_X11_sheet_b75 (k43 : Int32 → Int32 → Int32 → Int32 → Int32 → Int32 → jT → Option (Int32 × jT)) (x1 : Int32) (x2 : Int32) (x4 : Int32) (x5 : Int32) (x6 : Int32) (x7 : Int32) (s0 : Int32) (σ : jT) : Option (Int32 × jT) :=
  if x1 = 3 then
    f_X11_sheet_b94 k43 x1 x2 x4 x5 x6 x7 x7 σ
  else
    if x7 < x2 then
      f_X11_sheet_b109 k43 x1 x2 x4 x5 x6 x7 (jx_max 1 (jx_min 99 s0)) x7 σ
    else
      f_X11_sheet_b94 k43 x1 x2 x4 x5 x6 x7 x7 σ
def f_X11_sheet_b43 : Nat → Int32 → Int32 → Int32 → Int32 → Int32 → Int32 → jT → Option (Int32 × jT)
  | 0, _, _, _, _, _, _, _ => none
  | n + 1, x1, x2, x4, x5, x6, x7, σ =>
    if (σ.1 4165) ≤ x7 then
      if ¬ x1 = 3 then
        some (x5, σ)
      else
        some ((-3), σ)
    else
      if ¬ x1 = 0 then
        if ¬ x1 = 1 then
          f_X11_sheet_b75 (f_X11_sheet_b43 n) x1 x2 x4 x5 x6 x7 x6 σ
        else
          f_X11_sheet_b75 (f_X11_sheet_b43 n) x1 x2 x4 x5 x6 x7 x6.toInt16.toInt32 σ
      else
        f_X11_sheet_b75 (f_X11_sheet_b43 n) x1 x2 x4 x5 x6 x7 x6.toInt8.toInt32 σ
def f_X11_sheet_b34 (x1 : Int32) (x2 : Int32) (x3 : Int32) (x4 : Int32) (σ : jT) : Option (Int32 × jT) :=
  f_X11_sheet_b43 1000 x1 x2 x4 0 x3 0 σ
def f_X11_sheet (x1 : Int32) (x2 : Int32) (x3 : Int32) (x4 : Int32) (σ : jT) : Option (Int32 × jT) :=
  (f_X11_in x1 0 3 (gs σ 4172 0)).bind fun q1 =>
  if q1.1 = 0 then
    some ((-1), q1.2)
  else
    if x2 ≤ 6 then
      if 3 ≤ x1 then
        f_X11_sheet_b34 x1 x2 x3 x4 q1.2
      else
        if 0 ≤ x2 then
          f_X11_sheet_b34 x1 x2 x3 x4 q1.2
        else
          some ((-2), q1.2)
    else
      some ((-1), q1.2)
theorem t_X11_sheet_b109 {S : jS} (hS : jMok S) {d : Nat} {Q : Option Value → jx_H → Prop} {rd : Value} {k43 : Int32 → Int32 → Int32 → Int32 → Int32 → Int32 → jT → Option (Int32 × jT)} (hk43 : ∀ {x1 : Int32} {x2 : Int32} {x4 : Int32} {x5 : Int32} {x6 : Int32} {x7 : Int32} {w3 : Value} {w8 : Value} {σ : jT}, jw (k43 x1 x2 x4 x5 x6 x7 σ) (fun q => Q (some (.int q.1)) (jh (jSrd S rd) q.2)) → jx_Ex (d + 1) jm_l240 jm_b240_43 [.ref 65, .int x1, .int x2, w3, .int x4, .int x5, .int x6, .int x7, w8] [] (jh (jSrd S rd) σ) Q) {x1 : Int32} {x2 : Int32} {x4 : Int32} {x5 : Int32} {x6 : Int32} {x7 : Int32} {s0 : Int32} {s1 : Int32} {w3 : Value} {w8 : Value} {σ : jT} (h : jw (f_X11_sheet_b109 k43 x1 x2 x4 x5 x6 x7 s0 s1 σ) (fun q => Q (some (.int q.1)) (jh (jSrd S rd) q.2))) : jx_Ex (d + 1) jm_l240 jm_b240_109 [.ref 65, .int x1, .int x2, w3, .int x4, .int x5, .int x6, .int x7, w8] [.int s0, .int s1, .ref 69] (jh (jSrd S rd) σ) Q := by
  unfold f_X11_sheet_b109 at h
  obtain ⟨hi1, h⟩ := jw_chk h
  refine xm_41 (j := s1.toNatClampNeg) (jSrd_ok hS rd) ly69 ⟨Nat.le_of_ble_eq_true rfl, Nat.le_of_ble_eq_true rfl⟩ hi1 rfl ?_
  refine xo_2 rfl ?_
  refine xm_33 (i := 4160) (q := 66) (jSrd_ok hS rd) ly65 rfl (xm_P (jSrd_ok hS rd) (by decide)) ?_
  refine xo_8 ?_
  refine xo_1 rfl ?_
  refine xo_14 ?_
  refine xo_2 rfl ?_
  refine xm_33 (i := 4160) (q := 66) (jSrd_ok hS rd) ly65 rfl (xm_P (jSrd_ok hS rd) (by decide)) ?_
  refine xo_8 ?_
  refine xo_1 rfl ?_
  refine xo_14 ?_
  obtain ⟨hi2, h⟩ := jw_chk h
  refine xm_38 (j := (4 + x7).toNatClampNeg) (v := (σ.2 66 (4 + x7).toNatClampNeg)) (jSrd_ok hS rd) ly66 ⟨Nat.le_of_ble_eq_true rfl, Nat.le_of_ble_eq_true rfl⟩ hi2 rfl rfl ?_
  refine xo_2 rfl ?_
  refine xm_33 (i := 4166) (q := 69) (jSrd_ok hS rd) ly65 rfl (xm_P (jSrd_ok hS rd) (by decide)) ?_
  refine xo_1 rfl ?_
  obtain ⟨hi3, h⟩ := jw_chk h
  refine xm_38 (j := x7.toNatClampNeg) (v := ((gA σ 69 s1.toNatClampNeg s0).2 69 x7.toNatClampNeg)) (jSrd_ok hS rd) ly69 ⟨Nat.le_of_ble_eq_true rfl, Nat.le_of_ble_eq_true rfl⟩ hi3 rfl rfl ?_
  refine xo_73 (Nat.le_of_ble_eq_true rfl) ?_
  refine xm_41 (j := (4 + x7).toNatClampNeg) (jSrd_ok hS rd) ly66 ⟨Nat.le_of_ble_eq_true rfl, Nat.le_of_ble_eq_true rfl⟩ hi2 rfl ?_
  refine xo_1 rfl ?_
  refine xo_2 rfl ?_
  refine xm_33 (i := 4166) (q := 69) (jSrd_ok hS rd) ly65 rfl (xm_P (jSrd_ok hS rd) (by decide)) ?_
  refine xo_1 rfl ?_
  refine xm_38 (j := x7.toNatClampNeg) (v := ((gA (gA σ 69 s1.toNatClampNeg s0) 66 (4 + x7).toNatClampNeg (jx_min (σ.2 66 (4 + x7).toNatClampNeg) ((gA σ 69 s1.toNatClampNeg s0).2 69 x7.toNatClampNeg))).2 69 x7.toNatClampNeg)) (jSrd_ok hS rd) ly69 ⟨Nat.le_of_ble_eq_true rfl, Nat.le_of_ble_eq_true rfl⟩ hi3 rfl rfl ?_
  refine xo_14 ?_
  refine xo_5 (ls' := [.ref 65, .int x1, .int x2, w3, .int x4, .int (x5 + ((gA (gA σ 69 s1.toNatClampNeg s0) 66 (4 + x7).toNatClampNeg (jx_min (σ.2 66 (4 + x7).toNatClampNeg) ((gA σ 69 s1.toNatClampNeg s0).2 69 x7.toNatClampNeg))).2 69 x7.toNatClampNeg)), .int x6, .int x7, w8]) rfl ?_
  refine xo_1 rfl ?_
  refine xo_1 rfl ?_
  refine xo_14 ?_
  refine xo_5 (ls' := [.ref 65, .int x1, .int x2, w3, .int x4, .int (x5 + ((gA (gA σ 69 s1.toNatClampNeg s0) 66 (4 + x7).toNatClampNeg (jx_min (σ.2 66 (4 + x7).toNatClampNeg) ((gA σ 69 s1.toNatClampNeg s0).2 69 x7.toNatClampNeg))).2 69 x7.toNatClampNeg)), .int (x6 + x4), .int x7, w8]) rfl ?_
  refine xo_13 (ls' := [.ref 65, .int x1, .int x2, w3, .int x4, .int (x5 + ((gA (gA σ 69 s1.toNatClampNeg s0) 66 (4 + x7).toNatClampNeg (jx_min (σ.2 66 (4 + x7).toNatClampNeg) ((gA σ 69 s1.toNatClampNeg s0).2 69 x7.toNatClampNeg))).2 69 x7.toNatClampNeg)), .int (x6 + x4), .int (x7 + 1), w8]) rfl rfl ?_
  refine xo_54 (t := jm_b240_43) rfl ?_
  exact hk43 h
theorem t_X11_sheet_b94 {S : jS} (hS : jMok S) {d : Nat} {Q : Option Value → jx_H → Prop} {rd : Value} {k43 : Int32 → Int32 → Int32 → Int32 → Int32 → Int32 → jT → Option (Int32 × jT)} (hk43 : ∀ {x1 : Int32} {x2 : Int32} {x4 : Int32} {x5 : Int32} {x6 : Int32} {x7 : Int32} {w3 : Value} {w8 : Value} {σ : jT}, jw (k43 x1 x2 x4 x5 x6 x7 σ) (fun q => Q (some (.int q.1)) (jh (jSrd S rd) q.2)) → jx_Ex (d + 1) jm_l240 jm_b240_43 [.ref 65, .int x1, .int x2, w3, .int x4, .int x5, .int x6, .int x7, w8] [] (jh (jSrd S rd) σ) Q) {x1 : Int32} {x2 : Int32} {x4 : Int32} {x5 : Int32} {x6 : Int32} {x7 : Int32} {s0 : Int32} {w3 : Value} {w8 : Value} {σ : jT} (h : jw (f_X11_sheet_b94 k43 x1 x2 x4 x5 x6 x7 s0 σ) (fun q => Q (some (.int q.1)) (jh (jSrd S rd) q.2))) : jx_Ex (d + 1) jm_l240 jm_b240_94 [.ref 65, .int x1, .int x2, w3, .int x4, .int x5, .int x6, .int x7, w8] [.int s0, .ref 69] (jh (jSrd S rd) σ) Q := by
  unfold f_X11_sheet_b94 at h
  refine xo_8 ?_
  refine xo_54 (t := jm_b240_109) rfl ?_
  exact t_X11_sheet_b109 hS hk43 h
theorem t_X11_sheet_b75 {S : jS} (hS : jMok S) {d : Nat} {Q : Option Value → jx_H → Prop} {rd : Value} {k43 : Int32 → Int32 → Int32 → Int32 → Int32 → Int32 → jT → Option (Int32 × jT)} (hk43 : ∀ {x1 : Int32} {x2 : Int32} {x4 : Int32} {x5 : Int32} {x6 : Int32} {x7 : Int32} {w3 : Value} {w8 : Value} {σ : jT}, jw (k43 x1 x2 x4 x5 x6 x7 σ) (fun q => Q (some (.int q.1)) (jh (jSrd S rd) q.2)) → jx_Ex (d + 1) jm_l240 jm_b240_43 [.ref 65, .int x1, .int x2, w3, .int x4, .int x5, .int x6, .int x7, w8] [] (jh (jSrd S rd) σ) Q) {x1 : Int32} {x2 : Int32} {x4 : Int32} {x5 : Int32} {x6 : Int32} {x7 : Int32} {s0 : Int32} {w3 : Value} {w8 : Value} {σ : jT} (h : jw (f_X11_sheet_b75 k43 x1 x2 x4 x5 x6 x7 s0 σ) (fun q => Q (some (.int q.1)) (jh (jSrd S rd) q.2))) : jx_Ex (d + 1) jm_l240 jm_b240_75 [.ref 65, .int x1, .int x2, w3, .int x4, .int x5, .int x6, .int x7, w8] [.int s0] (jh (jSrd S rd) σ) Q := by
  unfold f_X11_sheet_b75 at h
  refine xo_5 (ls' := [.ref 65, .int x1, .int x2, w3, .int x4, .int x5, .int x6, .int x7, .int s0]) rfl ?_
  refine xo_2 rfl ?_
  refine xm_33 (i := 4166) (q := 69) (jSrd_ok hS rd) ly65 rfl (xm_P (jSrd_ok hS rd) (by decide)) ?_
  refine xo_1 rfl ?_
  refine xo_0 rfl ?_
  refine xo_8 ?_
  refine xo_61 (t := jm_b240_94) rfl (fun hc1 => ?_) (fun hc1 => ?_)
  · replace h := jw_pos hc1 h
    exact t_X11_sheet_b94 hS hk43 h
  · replace h := jw_neg hc1 h
    refine xo_1 rfl ?_
    refine xo_0 rfl ?_
    refine xo_63 (t := jm_b240_98) rfl (fun hc2 => ?_) (fun hc2 => ?_)
    · replace h := jw_pos hc2 h
      refine xo_8 ?_
      refine xo_9 ?_
      refine xo_1 rfl ?_
      refine xo_73 (Nat.le_of_ble_eq_true rfl) ?_
      refine xo_72 (Nat.le_of_ble_eq_true rfl) ?_
      exact t_X11_sheet_b109 hS hk43 h
    · replace h := jw_neg hc2 h
      exact t_X11_sheet_b94 hS hk43 h
theorem t_X11_sheet_b43 {S : jS} (hS : jMok S) {d : Nat} {Q : Option Value → jx_H → Prop} {rd : Value} : ∀ (n : Nat) {x1 : Int32} {x2 : Int32} {x4 : Int32} {x5 : Int32} {x6 : Int32} {x7 : Int32} {w3 : Value} {w8 : Value} {σ : jT}, jw (f_X11_sheet_b43 n x1 x2 x4 x5 x6 x7 σ) (fun q => Q (some (.int q.1)) (jh (jSrd S rd) q.2)) → jx_Ex (d + 1) jm_l240 jm_b240_43 [.ref 65, .int x1, .int x2, w3, .int x4, .int x5, .int x6, .int x7, w8] [] (jh (jSrd S rd) σ) Q := by
  intro n
  induction n with
  | zero => intro x1 x2 x4 x5 x6 x7 w3 w8 σ h; exact jw_none h
  | succ n ih =>
    intro x1 x2 x4 x5 x6 x7 w3 w8 σ h
    rw [f_X11_sheet_b43] at h
    refine xo_1 rfl ?_
    refine xo_2 rfl ?_
    refine xm_32 (i := 4165) (v := (σ.1 4165)) (jSrd_ok hS rd) ly65 rfl ⟨Nat.le_of_ble_eq_true rfl, Nat.le_of_ble_eq_true rfl⟩ rfl ?_
    refine xo_64 (t := jm_b240_163) rfl (fun hc1 => ?_) (fun hc1 => ?_)
    · replace h := jw_pos hc1 h
      refine xo_0 rfl ?_
      refine xo_8 ?_
      refine xo_62 (t := jm_b240_173) rfl (fun hc2 => ?_) (fun hc2 => ?_)
      · replace h := jw_pos hc2 h
        refine xo_1 rfl ?_
        replace h := jw_some h
        exact xo_69 h
      · replace h := jw_neg hc2 h
        refine xo_9 ?_
        refine xo_54 (t := jm_b240_175) rfl ?_
        replace h := jw_some h
        exact xo_69 h
    · replace h := jw_neg hc1 h
      refine xo_0 rfl ?_
      refine xo_56 (t := jm_b240_62) rfl (fun hc3 => ?_) (fun hc3 => ?_)
      · replace h := jw_pos hc3 h
        refine xo_0 rfl ?_
        refine xo_8 ?_
        refine xo_62 (t := jm_b240_73) rfl (fun hc4 => ?_) (fun hc4 => ?_)
        · replace h := jw_pos hc4 h
          refine xo_1 rfl ?_
          exact t_X11_sheet_b75 hS ih h
        · replace h := jw_neg hc4 h
          refine xo_1 rfl ?_
          refine xo_27 ?_
          refine xo_54 (t := jm_b240_75) rfl ?_
          exact t_X11_sheet_b75 hS ih h
      · replace h := jw_neg hc3 h
        refine xo_1 rfl ?_
        refine xo_26 ?_
        refine xo_54 (t := jm_b240_75) rfl ?_
        exact t_X11_sheet_b75 hS ih h
theorem t_X11_sheet_b34 {S : jS} (hS : jMok S) {d : Nat} {Q : Option Value → jx_H → Prop} {rd : Value} {x1 : Int32} {x2 : Int32} {x3 : Int32} {x4 : Int32} {w5 : Value} {w6 : Value} {w7 : Value} {w8 : Value} {σ : jT} (h : jw (f_X11_sheet_b34 x1 x2 x3 x4 σ) (fun q => Q (some (.int q.1)) (jh (jSrd S rd) q.2))) : jx_Ex (d + 1) jm_l240 jm_b240_34 [.ref 65, .int x1, .int x2, .int x3, .int x4, w5, w6, w7, w8] [] (jh (jSrd S rd) σ) Q := by
  unfold f_X11_sheet_b34 at h
  refine xo_8 ?_
  refine xo_5 (ls' := [.ref 65, .int x1, .int x2, .int x3, .int x4, .int 0, w6, w7, w8]) rfl ?_
  refine xo_0 rfl ?_
  refine xo_5 (ls' := [.ref 65, .int x1, .int x2, .int x3, .int x4, .int 0, .int x3, w7, w8]) rfl ?_
  refine xo_8 ?_
  refine xo_5 (ls' := [.ref 65, .int x1, .int x2, .int x3, .int x4, .int 0, .int x3, .int 0, w8]) rfl ?_
  exact t_X11_sheet_b43 hS 1000 h
theorem t_X11_sheet {S : jS} (hS : jMok S) {d : Nat} {Q : Option Value → jx_H → Prop} {rd : Value} {x1 : Int32} {x2 : Int32} {x3 : Int32} {x4 : Int32} {σ : jT} (h : jw (f_X11_sheet x1 x2 x3 x4 σ) (fun q => Q (some (.int q.1)) (jh (jSrd S rd) q.2))) : jx_Sp (d + 1) 240 [.ref 65, .int x1, .int x2, .int x3, .int x4] (jh (jSrd S rd) σ) Q := by
  refine ⟨jm_i240, jm_at240, rfl, rfl, ?_⟩
  show jx_Ex _ jm_l240 jm_b240_0 [.ref 65, .int x1, .int x2, .int x3, .int x4, .retAddr 0, .retAddr 0, .retAddr 0, .retAddr 0] [] _ _
  unfold f_X11_sheet at h
  refine xo_2 rfl ?_
  refine xo_8 ?_
  refine xm_34 (i := 4172) (jSrd_ok hS rd) ly65 rfl ⟨Nat.le_of_ble_eq_true rfl, Nat.le_of_ble_eq_true rfl⟩ ?_
  refine xo_0 rfl ?_
  refine xo_8 ?_
  refine xo_8 ?_
  refine xo_50 (st' := []) rfl rfl rfl (Nat.le_of_ble_eq_true rfl) ?_
  refine t_X11_in hS ?_
  refine jw_mono (jw_bind h) (fun q1 h => ?_)
  show jx_Ex _ _ _ _ [.int q1.1] (jh (jSrd S rd) q1.2) _
  refine xo_55 (t := jm_b240_20) rfl (fun hc2 => ?_) (fun hc2 => ?_)
  · replace h := jw_pos hc2 h
    refine xo_8 ?_
    replace h := jw_some h
    exact xo_69 h
  · replace h := jw_neg hc2 h
    refine xo_0 rfl ?_
    refine xo_9 ?_
    refine xo_66 (t := jm_b240_22) rfl (fun hc3 => ?_) (fun hc3 => ?_)
    · replace h := jw_pos hc3 h
      refine xo_0 rfl ?_
      refine xo_8 ?_
      refine xo_64 (t := jm_b240_34) rfl (fun hc4 => ?_) (fun hc4 => ?_)
      · replace h := jw_pos hc4 h
        exact t_X11_sheet_b34 hS h
      · replace h := jw_neg hc4 h
        refine xo_0 rfl ?_
        refine xo_58 (t := jm_b240_34) rfl (fun hc5 => ?_) (fun hc5 => ?_)
        · replace h := jw_pos hc5 h
          exact t_X11_sheet_b34 hS h
        · replace h := jw_neg hc5 h
          refine xo_9 ?_
          replace h := jw_some h
          exact xo_69 h
    · replace h := jw_neg hc3 h
      refine xo_8 ?_
      replace h := jw_some h
      exact xo_69 h
/-- OfDifferentMindsModel.areTwo, at ['m', 'int', 'int'] K -/
def f_X11_areTwo (x1 : Int32) (x2 : Int32) (σ : jT) : Option (Int32 × jT) :=
  (f_X11_isRider x1 σ).bind fun q1 =>
  if q1.1 = 0 then
    some (0, q1.2)
  else
    (f_X11_isRider x2 q1.2).bind fun q3 =>
    if q3.1 = 0 then
      some (0, q3.2)
    else
      if x1 = x2 then
        some (0, q3.2)
      else
        some (1, q3.2)
theorem t_X11_areTwo {S : jS} (hS : jMok S) {d : Nat} {Q : Option Value → jx_H → Prop} {rd : Value} {x1 : Int32} {x2 : Int32} {σ : jT} (h : jw (f_X11_areTwo x1 x2 σ) (fun q => Q (some (.int q.1)) (jh (jSrd S rd) q.2))) : jx_Sp (d + 2) 208 [.ref 65, .int x1, .int x2] (jh (jSrd S rd) σ) Q := by
  refine ⟨jm_i208, jm_at208, rfl, rfl, ?_⟩
  show jx_Ex _ jm_l208 jm_b208_0 [.ref 65, .int x1, .int x2] [] _ _
  unfold f_X11_areTwo at h
  refine xo_2 rfl ?_
  refine xo_0 rfl ?_
  refine xo_49 (st' := []) rfl rfl (xm_ly (jSrd_ok hS rd) ly65) rfl (Nat.le_of_ble_eq_true rfl) ?_
  refine t_X11_isRider hS ?_
  refine jw_mono (jw_bind h) (fun q1 h => ?_)
  show jx_Ex _ _ _ _ [.int q1.1] (jh (jSrd S rd) q1.2) _
  refine xo_55 (t := jm_b208_25) rfl (fun hc2 => ?_) (fun hc2 => ?_)
  · replace h := jw_pos hc2 h
    refine xo_8 ?_
    replace h := jw_some h
    exact xo_70 (by decide) h
  · replace h := jw_neg hc2 h
    refine xo_2 rfl ?_
    refine xo_0 rfl ?_
    refine xo_49 (st' := []) rfl rfl (xm_ly (jSrd_ok hS rd) ly65) rfl (Nat.le_of_ble_eq_true rfl) ?_
    refine t_X11_isRider hS ?_
    refine jw_mono (jw_bind h) (fun q3 h => ?_)
    show jx_Ex _ _ _ _ [.int q3.1] (jh (jSrd S rd) q3.2) _
    refine xo_55 (t := jm_b208_25) rfl (fun hc4 => ?_) (fun hc4 => ?_)
    · replace h := jw_pos hc4 h
      refine xo_8 ?_
      replace h := jw_some h
      exact xo_70 (by decide) h
    · replace h := jw_neg hc4 h
      refine xo_0 rfl ?_
      refine xo_0 rfl ?_
      refine xo_61 (t := jm_b208_25) rfl (fun hc5 => ?_) (fun hc5 => ?_)
      · replace h := jw_pos hc5 h
        refine xo_8 ?_
        replace h := jw_some h
        exact xo_70 (by decide) h
      · replace h := jw_neg hc5 h
        refine xo_8 ?_
        refine xo_54 (t := jm_b208_26) rfl ?_
        replace h := jw_some h
        exact xo_70 (by decide) h
/-- OfDifferentMindsModel.isRidden, at ['m'] K -/
def f_X11_isRidden (σ : jT) : Option (Int32 × jT) :=
  if (σ.2 66 1) = (-1) then
    some (0, σ)
  else
    some (1, σ)
theorem t_X11_isRidden {S : jS} (hS : jMok S) {d : Nat} {Q : Option Value → jx_H → Prop} {rd : Value} {σ : jT} (h : jw (f_X11_isRidden σ) (fun q => Q (some (.int q.1)) (jh (jSrd S rd) q.2))) : jx_Sp (d) 210 [.ref 65] (jh (jSrd S rd) σ) Q := by
  refine ⟨jm_i210, jm_at210, rfl, rfl, ?_⟩
  show jx_Ex _ jm_l210 jm_b210_0 [.ref 65] [] _ _
  unfold f_X11_isRidden at h
  refine xo_2 rfl ?_
  refine xm_33 (i := 4160) (q := 66) (jSrd_ok hS rd) ly65 rfl (xm_P (jSrd_ok hS rd) (by decide)) ?_
  refine xo_8 ?_
  refine xm_38 (j := 1) (v := (σ.2 66 1)) (jSrd_ok hS rd) ly66 ⟨Nat.le_of_ble_eq_true rfl, Nat.le_of_ble_eq_true rfl⟩ (by decide) (by decide) rfl ?_
  refine xo_8 ?_
  refine xo_61 (t := jm_b210_14) rfl (fun hc1 => ?_) (fun hc1 => ?_)
  · replace h := jw_pos hc1 h
    refine xo_8 ?_
    replace h := jw_some h
    exact xo_70 (by decide) h
  · replace h := jw_neg hc1 h
    refine xo_8 ?_
    refine xo_54 (t := jm_b210_15) rfl ?_
    replace h := jw_some h
    exact xo_70 (by decide) h
/-- OfDifferentMindsModel.refusesMount, at ['m', 'int', 'int'] K -/
def f_X11_refusesMount (x1 : Int32) (x2 : Int32) (σ : jT) : Option (Int32 × jT) :=
  (f_X11_areTwo x1 x2 σ).bind fun q1 =>
  if ¬ q1.1 = 0 then
    (f_X11_isRidden q1.2).bind fun q3 =>
    if q3.1 = 0 then
      if jx_in (10 + x1) 28 then
      if ¬ (q3.2.2 66 (10 + x1).toNatClampNeg) = (q3.2.2 66 0) then
        some ((-3), q3.2)
      else
        if jx_in (10 + x2) 28 then
        if ¬ (q3.2.2 66 (10 + x2).toNatClampNeg) = (q3.2.2 66 0) then
          some ((-3), q3.2)
        else
          some (0, q3.2)
        else none
      else none
    else
      some ((-2), q3.2)
  else
    some ((-1), q1.2)
theorem t_X11_refusesMount {S : jS} (hS : jMok S) {d : Nat} {Q : Option Value → jx_H → Prop} {rd : Value} {x1 : Int32} {x2 : Int32} {σ : jT} (h : jw (f_X11_refusesMount x1 x2 σ) (fun q => Q (some (.int q.1)) (jh (jSrd S rd) q.2))) : jx_Sp (d + 3) 243 [.ref 65, .int x1, .int x2] (jh (jSrd S rd) σ) Q := by
  refine ⟨jm_i243, jm_at243, rfl, rfl, ?_⟩
  show jx_Ex _ jm_l243 jm_b243_0 [.ref 65, .int x1, .int x2] [] _ _
  unfold f_X11_refusesMount at h
  refine xo_2 rfl ?_
  refine xo_0 rfl ?_
  refine xo_0 rfl ?_
  refine xo_49 (st' := []) rfl rfl (xm_ly (jSrd_ok hS rd) ly65) rfl (Nat.le_of_ble_eq_true rfl) ?_
  refine t_X11_areTwo hS ?_
  refine jw_mono (jw_bind h) (fun q1 h => ?_)
  show jx_Ex _ _ _ _ [.int q1.1] (jh (jSrd S rd) q1.2) _
  refine xo_56 (t := jm_b243_11) rfl (fun hc2 => ?_) (fun hc2 => ?_)
  · replace h := jw_pos hc2 h
    refine xo_2 rfl ?_
    refine xo_49 (st' := []) rfl rfl (xm_ly (jSrd_ok hS rd) ly65) rfl (Nat.le_of_ble_eq_true rfl) ?_
    refine t_X11_isRidden hS ?_
    refine jw_mono (jw_bind h) (fun q3 h => ?_)
    show jx_Ex _ _ _ _ [.int q3.1] (jh (jSrd S rd) q3.2) _
    refine xo_55 (t := jm_b243_21) rfl (fun hc4 => ?_) (fun hc4 => ?_)
    · replace h := jw_pos hc4 h
      refine xo_2 rfl ?_
      refine xm_33 (i := 4160) (q := 66) (jSrd_ok hS rd) ly65 rfl (xm_P (jSrd_ok hS rd) (by decide)) ?_
      refine xo_9 ?_
      refine xo_0 rfl ?_
      refine xo_14 ?_
      obtain ⟨hi5, h⟩ := jw_chk h
      refine xm_38 (j := (10 + x1).toNatClampNeg) (v := (q3.2.2 66 (10 + x1).toNatClampNeg)) (jSrd_ok hS rd) ly66 ⟨Nat.le_of_ble_eq_true rfl, Nat.le_of_ble_eq_true rfl⟩ hi5 rfl rfl ?_
      refine xo_2 rfl ?_
      refine xm_33 (i := 4160) (q := 66) (jSrd_ok hS rd) ly65 rfl (xm_P (jSrd_ok hS rd) (by decide)) ?_
      refine xo_8 ?_
      refine xm_38 (j := 0) (v := (q3.2.2 66 0)) (jSrd_ok hS rd) ly66 ⟨Nat.le_of_ble_eq_true rfl, Nat.le_of_ble_eq_true rfl⟩ (by decide) (by decide) rfl ?_
      refine xo_62 (t := jm_b243_61) rfl (fun hc6 => ?_) (fun hc6 => ?_)
      · replace h := jw_pos hc6 h
        refine xo_9 ?_
        replace h := jw_some h
        exact xo_69 h
      · replace h := jw_neg hc6 h
        refine xo_2 rfl ?_
        refine xm_33 (i := 4160) (q := 66) (jSrd_ok hS rd) ly65 rfl (xm_P (jSrd_ok hS rd) (by decide)) ?_
        refine xo_9 ?_
        refine xo_0 rfl ?_
        refine xo_14 ?_
        obtain ⟨hi7, h⟩ := jw_chk h
        refine xm_38 (j := (10 + x2).toNatClampNeg) (v := (q3.2.2 66 (10 + x2).toNatClampNeg)) (jSrd_ok hS rd) ly66 ⟨Nat.le_of_ble_eq_true rfl, Nat.le_of_ble_eq_true rfl⟩ hi7 rfl rfl ?_
        refine xo_2 rfl ?_
        refine xm_33 (i := 4160) (q := 66) (jSrd_ok hS rd) ly65 rfl (xm_P (jSrd_ok hS rd) (by decide)) ?_
        refine xo_8 ?_
        refine xm_38 (j := 0) (v := (q3.2.2 66 0)) (jSrd_ok hS rd) ly66 ⟨Nat.le_of_ble_eq_true rfl, Nat.le_of_ble_eq_true rfl⟩ (by decide) (by decide) rfl ?_
        refine xo_62 (t := jm_b243_61) rfl (fun hc8 => ?_) (fun hc8 => ?_)
        · replace h := jw_pos hc8 h
          refine xo_9 ?_
          replace h := jw_some h
          exact xo_69 h
        · replace h := jw_neg hc8 h
          refine xo_8 ?_
          refine xo_54 (t := jm_b243_63) rfl ?_
          replace h := jw_some h
          exact xo_69 h
    · replace h := jw_neg hc4 h
      refine xo_9 ?_
      replace h := jw_some h
      exact xo_69 h
  · replace h := jw_neg hc2 h
    refine xo_8 ?_
    replace h := jw_some h
    exact xo_69 h
/-- OfDifferentMindsModel.lay, at ['m.now', 'm.undos', 'int'] K -/
def f_X11_lay_66_79_b2 : Nat → Int32 → Int32 → jT → Option (Int32 × jT)
  | 0, _, _, _ => none
  | n + 1, x2, x3, σ =>
    if 28 ≤ x3 then
      some (0, σ)
    else
      if jx_in x3 28 then
      if jx_in (x2 + x3) 336 then
      f_X11_lay_66_79_b2 n x2 (x3 + 1) (gA σ 79 (x2 + x3).toNatClampNeg (σ.2 66 x3.toNatClampNeg))
      else none
      else none
def f_X11_lay_66_79 (x2 : Int32) (σ : jT) : Option (Int32 × jT) :=
  f_X11_lay_66_79_b2 1000 x2 0 σ
theorem t_X11_lay_66_79_b2 {S : jS} (hS : jMok S) {d : Nat} {Q : Option Value → jx_H → Prop} {rd : Value} : ∀ (n : Nat) {x2 : Int32} {x3 : Int32} {σ : jT}, jw (f_X11_lay_66_79_b2 n x2 x3 σ) (fun q => Q none (jh (jSrd S rd) q.2)) → jx_Ex (d) jm_l241 jm_b241_2 [.ref 66, .ref 79, .int x2, .int x3] [] (jh (jSrd S rd) σ) Q := by
  intro n
  induction n with
  | zero => intro x2 x3 σ h; exact jw_none h
  | succ n ih =>
    intro x2 x3 σ h
    rw [f_X11_lay_66_79_b2] at h
    refine xo_0 rfl ?_
    refine xo_9 ?_
    refine xo_64 (t := jm_b241_22) rfl (fun hc1 => ?_) (fun hc1 => ?_)
    · replace h := jw_pos hc1 h
      replace h := jw_some h
      exact xo_71 h
    · replace h := jw_neg hc1 h
      refine xo_2 rfl ?_
      refine xo_0 rfl ?_
      refine xo_0 rfl ?_
      refine xo_14 ?_
      refine xo_2 rfl ?_
      refine xo_0 rfl ?_
      obtain ⟨hi2, h⟩ := jw_chk h
      refine xm_38 (j := x3.toNatClampNeg) (v := (σ.2 66 x3.toNatClampNeg)) (jSrd_ok hS rd) ly66 ⟨Nat.le_of_ble_eq_true rfl, Nat.le_of_ble_eq_true rfl⟩ hi2 rfl rfl ?_
      obtain ⟨hi3, h⟩ := jw_chk h
      refine xm_41 (j := (x2 + x3).toNatClampNeg) (jSrd_ok hS rd) ly79 ⟨Nat.le_of_ble_eq_true rfl, Nat.le_of_ble_eq_true rfl⟩ hi3 rfl ?_
      refine xo_13 (ls' := [.ref 66, .ref 79, .int x2, .int (x3 + 1)]) rfl rfl ?_
      refine xo_54 (t := jm_b241_2) rfl ?_
      exact ih h
theorem t_X11_lay_66_79 {S : jS} (hS : jMok S) {d : Nat} {Q : Option Value → jx_H → Prop} {rd : Value} {x2 : Int32} {σ : jT} (h : jw (f_X11_lay_66_79 x2 σ) (fun q => Q none (jh (jSrd S rd) q.2))) : jx_Sp (d) 241 [.ref 66, .ref 79, .int x2] (jh (jSrd S rd) σ) Q := by
  refine ⟨jm_i241, jm_at241, rfl, rfl, ?_⟩
  show jx_Ex _ jm_l241 jm_b241_0 [.ref 66, .ref 79, .int x2, .retAddr 0] [] _ _
  unfold f_X11_lay_66_79 at h
  refine xo_8 ?_
  refine xo_4 (ls' := [.ref 66, .ref 79, .int x2, .int 0]) rfl ?_
  exact t_X11_lay_66_79_b2 hS 1000 h
/-- OfDifferentMindsModel.remember, at ['m', 'm.now'] K -/
def f_X11_remember_66_b49 (σ : jT) : Option (Int32 × jT) :=
  (f_X11_lay_66_79 (28 * (σ.1 4189)) σ).bind fun q1 =>
  some (0, (gs q1.2 4189 ((q1.2.1 4189) + 1)))
def f_X11_remember_66_b11 : Nat → Int32 → jT → Option (Int32 × jT)
  | 0, _, _ => none
  | n + 1, x2, σ =>
    if 308 ≤ x2 then
      f_X11_remember_66_b49 (gs σ 4189 ((σ.1 4189) - 1))
    else
      if jx_in (x2 + 28) 336 then
      if jx_in x2 336 then
      f_X11_remember_66_b11 n (x2 + 1) (gA σ 79 x2.toNatClampNeg (σ.2 79 (x2 + 28).toNatClampNeg))
      else none
      else none
def f_X11_remember_66 (σ : jT) : Option (Int32 × jT) :=
  if ¬ (σ.1 4189) = 12 then
    f_X11_remember_66_b49 σ
  else
    f_X11_remember_66_b11 1000 0 σ
theorem t_X11_remember_66_b49 {S : jS} (hS : jMok S) {d : Nat} {Q : Option Value → jx_H → Prop} {rd : Value} {w2 : Value} {σ : jT} (h : jw (f_X11_remember_66_b49 σ) (fun q => Q none (jh (jSrd S rd) q.2))) : jx_Ex (d + 1) jm_l242 jm_b242_49 [.ref 65, .ref 66, w2] [] (jh (jSrd S rd) σ) Q := by
  unfold f_X11_remember_66_b49 at h
  refine xo_2 rfl ?_
  refine xo_2 rfl ?_
  refine xm_33 (i := 4188) (q := 79) (jSrd_ok hS rd) ly65 rfl (xm_P (jSrd_ok hS rd) (by decide)) ?_
  refine xo_9 ?_
  refine xo_2 rfl ?_
  refine xm_32 (i := 4189) (v := (σ.1 4189)) (jSrd_ok hS rd) ly65 rfl ⟨Nat.le_of_ble_eq_true rfl, Nat.le_of_ble_eq_true rfl⟩ rfl ?_
  refine xo_16 ?_
  refine xo_50 (st' := []) rfl rfl rfl (Nat.le_of_ble_eq_true rfl) ?_
  refine t_X11_lay_66_79 hS ?_
  refine jw_mono (jw_bind h) (fun q1 h => ?_)
  show jx_Ex _ _ _ _ [] (jh (jSrd S rd) q1.2) _
  refine xo_2 rfl ?_
  refine xo_28r ?_
  refine xm_32 (i := 4189) (v := (q1.2.1 4189)) (jSrd_ok hS rd) ly65 rfl ⟨Nat.le_of_ble_eq_true rfl, Nat.le_of_ble_eq_true rfl⟩ rfl ?_
  refine xo_8 ?_
  refine xo_14 ?_
  refine xm_34 (i := 4189) (jSrd_ok hS rd) ly65 rfl ⟨Nat.le_of_ble_eq_true rfl, Nat.le_of_ble_eq_true rfl⟩ ?_
  replace h := jw_some h
  exact xo_71 h
theorem t_X11_remember_66_b11 {S : jS} (hS : jMok S) {d : Nat} {Q : Option Value → jx_H → Prop} {rd : Value} : ∀ (n : Nat) {x2 : Int32} {σ : jT}, jw (f_X11_remember_66_b11 n x2 σ) (fun q => Q none (jh (jSrd S rd) q.2)) → jx_Ex (d + 1) jm_l242 jm_b242_11 [.ref 65, .ref 66, .int x2] [] (jh (jSrd S rd) σ) Q := by
  intro n
  induction n with
  | zero => intro x2 σ h; exact jw_none h
  | succ n ih =>
    intro x2 σ h
    rw [f_X11_remember_66_b11] at h
    refine xo_0 rfl ?_
    refine xo_10 ?_
    refine xo_64 (t := jm_b242_39) rfl (fun hc1 => ?_) (fun hc1 => ?_)
    · replace h := jw_pos hc1 h
      refine xo_2 rfl ?_
      refine xo_28r ?_
      refine xm_32 (i := 4189) (v := (σ.1 4189)) (jSrd_ok hS rd) ly65 rfl ⟨Nat.le_of_ble_eq_true rfl, Nat.le_of_ble_eq_true rfl⟩ rfl ?_
      refine xo_8 ?_
      refine xo_15 ?_
      refine xm_34 (i := 4189) (jSrd_ok hS rd) ly65 rfl ⟨Nat.le_of_ble_eq_true rfl, Nat.le_of_ble_eq_true rfl⟩ ?_
      exact t_X11_remember_66_b49 hS h
    · replace h := jw_neg hc1 h
      refine xo_2 rfl ?_
      refine xm_33 (i := 4188) (q := 79) (jSrd_ok hS rd) ly65 rfl (xm_P (jSrd_ok hS rd) (by decide)) ?_
      refine xo_0 rfl ?_
      refine xo_2 rfl ?_
      refine xm_33 (i := 4188) (q := 79) (jSrd_ok hS rd) ly65 rfl (xm_P (jSrd_ok hS rd) (by decide)) ?_
      refine xo_0 rfl ?_
      refine xo_9 ?_
      refine xo_14 ?_
      obtain ⟨hi2, h⟩ := jw_chk h
      refine xm_38 (j := (x2 + 28).toNatClampNeg) (v := (σ.2 79 (x2 + 28).toNatClampNeg)) (jSrd_ok hS rd) ly79 ⟨Nat.le_of_ble_eq_true rfl, Nat.le_of_ble_eq_true rfl⟩ hi2 rfl rfl ?_
      obtain ⟨hi3, h⟩ := jw_chk h
      refine xm_41 (j := x2.toNatClampNeg) (jSrd_ok hS rd) ly79 ⟨Nat.le_of_ble_eq_true rfl, Nat.le_of_ble_eq_true rfl⟩ hi3 rfl ?_
      refine xo_13 (ls' := [.ref 65, .ref 66, .int (x2 + 1)]) rfl rfl ?_
      refine xo_54 (t := jm_b242_11) rfl ?_
      exact ih h
theorem t_X11_remember_66 {S : jS} (hS : jMok S) {d : Nat} {Q : Option Value → jx_H → Prop} {rd : Value} {σ : jT} (h : jw (f_X11_remember_66 σ) (fun q => Q none (jh (jSrd S rd) q.2))) : jx_Sp (d + 1) 242 [.ref 65, .ref 66] (jh (jSrd S rd) σ) Q := by
  refine ⟨jm_i242, jm_at242, rfl, rfl, ?_⟩
  show jx_Ex _ jm_l242 jm_b242_0 [.ref 65, .ref 66, .retAddr 0] [] _ _
  unfold f_X11_remember_66 at h
  refine xo_2 rfl ?_
  refine xm_32 (i := 4189) (v := (σ.1 4189)) (jSrd_ok hS rd) ly65 rfl ⟨Nat.le_of_ble_eq_true rfl, Nat.le_of_ble_eq_true rfl⟩ rfl ?_
  refine xo_9 ?_
  refine xo_62 (t := jm_b242_49) rfl (fun hc1 => ?_) (fun hc1 => ?_)
  · replace h := jw_pos hc1 h
    exact t_X11_remember_66_b49 hS h
  · replace h := jw_neg hc1 h
    refine xo_8 ?_
    refine xo_4 (ls' := [.ref 65, .ref 66, .int 0]) rfl ?_
    exact t_X11_remember_66_b11 hS 1000 h
/-- OfDifferentMindsModel.goMount, at ['m', 'int', 'int'] K -/
def f_X11_goMount (x1 : Int32) (x2 : Int32) (σ : jT) : Option (Int32 × jT) :=
  some (0, (gA (gA (gA σ 66 1 x1) 66 2 x2) 66 3 0))
theorem t_X11_goMount {S : jS} (hS : jMok S) {d : Nat} {Q : Option Value → jx_H → Prop} {rd : Value} {x1 : Int32} {x2 : Int32} {σ : jT} (h : jw (f_X11_goMount x1 x2 σ) (fun q => Q none (jh (jSrd S rd) q.2))) : jx_Sp (d) 244 [.ref 65, .int x1, .int x2] (jh (jSrd S rd) σ) Q := by
  refine ⟨jm_i244, jm_at244, rfl, rfl, ?_⟩
  show jx_Ex _ jm_l244 jm_b244_0 [.ref 65, .int x1, .int x2] [] _ _
  unfold f_X11_goMount at h
  refine xo_2 rfl ?_
  refine xm_33 (i := 4160) (q := 66) (jSrd_ok hS rd) ly65 rfl (xm_P (jSrd_ok hS rd) (by decide)) ?_
  refine xo_8 ?_
  refine xo_0 rfl ?_
  refine xm_41 (j := 1) (jSrd_ok hS rd) ly66 ⟨Nat.le_of_ble_eq_true rfl, Nat.le_of_ble_eq_true rfl⟩ (by decide) (by decide) ?_
  refine xo_2 rfl ?_
  refine xm_33 (i := 4160) (q := 66) (jSrd_ok hS rd) ly65 rfl (xm_P (jSrd_ok hS rd) (by decide)) ?_
  refine xo_8 ?_
  refine xo_0 rfl ?_
  refine xm_41 (j := 2) (jSrd_ok hS rd) ly66 ⟨Nat.le_of_ble_eq_true rfl, Nat.le_of_ble_eq_true rfl⟩ (by decide) (by decide) ?_
  refine xo_2 rfl ?_
  refine xm_33 (i := 4160) (q := 66) (jSrd_ok hS rd) ly65 rfl (xm_P (jSrd_ok hS rd) (by decide)) ?_
  refine xo_8 ?_
  refine xo_8 ?_
  refine xm_41 (j := 3) (jSrd_ok hS rd) ly66 ⟨Nat.le_of_ble_eq_true rfl, Nat.le_of_ble_eq_true rfl⟩ (by decide) (by decide) ?_
  replace h := jw_some h
  exact xo_71 h
/-- OfDifferentMindsModel.mount, at ['m', 'int', 'int'] K -/
def f_X11_mount (x1 : Int32) (x2 : Int32) (σ : jT) : Option (Int32 × jT) :=
  (f_X11_refusesMount x1 x2 (gs σ 4172 0)).bind fun q1 =>
  if 0 ≤ q1.1 then
    (f_X11_remember_66 q1.2).bind fun q3 =>
    (f_X11_goMount x1 x2 q3.2).bind fun q4 =>
    if jx_in (q4.2.2 66 0) 10 then
    if (q4.2.2 67 (q4.2.2 66 0).toNatClampNeg) ≤ 0 then
      some (0, q4.2)
    else
      (f_X11_viewOf_66 x1 (q4.2.2 66 0) q4.2).bind fun q7 =>
      (f_X11_viewOf_66 x2 (q4.2.2 66 0) q7.2).bind fun q8 =>
      if q7.1 = q8.1 then
        some (0, q8.2)
      else
        some (1, q8.2)
    else none
  else
    some (q1.1, q1.2)
theorem t_X11_mount {S : jS} (hS : jMok S) {d : Nat} {Q : Option Value → jx_H → Prop} {rd : Value} {x1 : Int32} {x2 : Int32} {σ : jT} (h : jw (f_X11_mount x1 x2 σ) (fun q => Q (some (.int q.1)) (jh (jSrd S rd) q.2))) : jx_Sp (d + 4) 245 [.ref 65, .int x1, .int x2] (jh (jSrd S rd) σ) Q := by
  refine ⟨jm_i245, jm_at245, rfl, rfl, ?_⟩
  show jx_Ex _ jm_l245 jm_b245_0 [.ref 65, .int x1, .int x2, .retAddr 0, .retAddr 0] [] _ _
  unfold f_X11_mount at h
  refine xo_2 rfl ?_
  refine xo_8 ?_
  refine xm_34 (i := 4172) (jSrd_ok hS rd) ly65 rfl ⟨Nat.le_of_ble_eq_true rfl, Nat.le_of_ble_eq_true rfl⟩ ?_
  refine xo_2 rfl ?_
  refine xo_0 rfl ?_
  refine xo_0 rfl ?_
  refine xo_49 (st' := []) rfl rfl (xm_ly (jSrd_ok hS rd) ly65) rfl (Nat.le_of_ble_eq_true rfl) ?_
  refine t_X11_refusesMount hS ?_
  refine jw_mono (jw_bind h) (fun q1 h => ?_)
  show jx_Ex _ _ _ _ [.int q1.1] (jh (jSrd S rd) q1.2) _
  refine xo_4 (ls' := [.ref 65, .int x1, .int x2, .int q1.1, .retAddr 0]) rfl ?_
  refine xo_0 rfl ?_
  refine xo_58 (t := jm_b245_18) rfl (fun hc2 => ?_) (fun hc2 => ?_)
  · replace h := jw_pos hc2 h
    refine xo_2 rfl ?_
    refine xo_2 rfl ?_
    refine xm_33 (i := 4160) (q := 66) (jSrd_ok hS rd) ly65 rfl (xm_P (jSrd_ok hS rd) (by decide)) ?_
    refine xo_49 (st' := []) rfl rfl (xm_ly (jSrd_ok hS rd) ly65) rfl (Nat.le_of_ble_eq_true rfl) ?_
    refine t_X11_remember_66 hS ?_
    refine jw_mono (jw_bind h) (fun q3 h => ?_)
    show jx_Ex _ _ _ _ [] (jh (jSrd S rd) q3.2) _
    refine xo_2 rfl ?_
    refine xo_0 rfl ?_
    refine xo_0 rfl ?_
    refine xo_49 (st' := []) rfl rfl (xm_ly (jSrd_ok hS rd) ly65) rfl (Nat.le_of_ble_eq_true rfl) ?_
    refine t_X11_goMount hS ?_
    refine jw_mono (jw_bind h) (fun q4 h => ?_)
    show jx_Ex _ _ _ _ [] (jh (jSrd S rd) q4.2) _
    refine xo_2 rfl ?_
    refine xm_33 (i := 4160) (q := 66) (jSrd_ok hS rd) ly65 rfl (xm_P (jSrd_ok hS rd) (by decide)) ?_
    refine xo_8 ?_
    refine xm_38 (j := 0) (v := (q4.2.2 66 0)) (jSrd_ok hS rd) ly66 ⟨Nat.le_of_ble_eq_true rfl, Nat.le_of_ble_eq_true rfl⟩ (by decide) (by decide) rfl ?_
    refine xo_5 (ls' := [.ref 65, .int x1, .int x2, .int q1.1, .int (q4.2.2 66 0)]) rfl ?_
    refine xo_2 rfl ?_
    refine xm_33 (i := 4162) (q := 67) (jSrd_ok hS rd) ly65 rfl (xm_P (jSrd_ok hS rd) (by decide)) ?_
    refine xo_1 rfl ?_
    obtain ⟨hi5, h⟩ := jw_chk h
    refine xm_38 (j := (q4.2.2 66 0).toNatClampNeg) (v := (q4.2.2 67 (q4.2.2 66 0).toNatClampNeg)) (jSrd_ok hS rd) ly67 ⟨Nat.le_of_ble_eq_true rfl, Nat.le_of_ble_eq_true rfl⟩ hi5 rfl rfl ?_
    refine xo_60 (t := jm_b245_79) rfl (fun hc6 => ?_) (fun hc6 => ?_)
    · replace h := jw_pos hc6 h
      refine xo_8 ?_
      replace h := jw_some h
      exact xo_69 h
    · replace h := jw_neg hc6 h
      refine xo_2 rfl ?_
      refine xo_2 rfl ?_
      refine xm_33 (i := 4160) (q := 66) (jSrd_ok hS rd) ly65 rfl (xm_P (jSrd_ok hS rd) (by decide)) ?_
      refine xo_0 rfl ?_
      refine xo_1 rfl ?_
      refine xo_49 (st' := []) rfl rfl (xm_ly (jSrd_ok hS rd) ly65) rfl (Nat.le_of_ble_eq_true rfl) ?_
      refine t_X11_viewOf_66 hS ?_
      refine jw_mono (jw_bind h) (fun q7 h => ?_)
      show jx_Ex _ _ _ _ [.int q7.1] (jh (jSrd S rd) q7.2) _
      refine xo_2 rfl ?_
      refine xo_2 rfl ?_
      refine xm_33 (i := 4160) (q := 66) (jSrd_ok hS rd) ly65 rfl (xm_P (jSrd_ok hS rd) (by decide)) ?_
      refine xo_0 rfl ?_
      refine xo_1 rfl ?_
      refine xo_49 (st' := [.int q7.1]) rfl rfl (xm_ly (jSrd_ok hS rd) ly65) rfl (Nat.le_of_ble_eq_true rfl) ?_
      refine t_X11_viewOf_66 hS ?_
      refine jw_mono (jw_bind h) (fun q8 h => ?_)
      show jx_Ex _ _ _ _ [.int q8.1, .int q7.1] (jh (jSrd S rd) q8.2) _
      refine xo_61 (t := jm_b245_79) rfl (fun hc9 => ?_) (fun hc9 => ?_)
      · replace h := jw_pos hc9 h
        refine xo_8 ?_
        replace h := jw_some h
        exact xo_69 h
      · replace h := jw_neg hc9 h
        refine xo_8 ?_
        refine xo_54 (t := jm_b245_80) rfl ?_
        replace h := jw_some h
        exact xo_69 h
  · replace h := jw_neg hc2 h
    refine xo_0 rfl ?_
    replace h := jw_some h
    exact xo_69 h
/-- OfDifferentMindsModel.goDown, at ['m'] K -/
def f_X11_goDown (σ : jT) : Option (Int32 × jT) :=
  some (0, (gA (gA (gA σ 66 1 (-1)) 66 2 (-1)) 66 3 0))
theorem t_X11_goDown {S : jS} (hS : jMok S) {d : Nat} {Q : Option Value → jx_H → Prop} {rd : Value} {σ : jT} (h : jw (f_X11_goDown σ) (fun q => Q none (jh (jSrd S rd) q.2))) : jx_Sp (d) 246 [.ref 65] (jh (jSrd S rd) σ) Q := by
  refine ⟨jm_i246, jm_at246, rfl, rfl, ?_⟩
  show jx_Ex _ jm_l246 jm_b246_0 [.ref 65] [] _ _
  unfold f_X11_goDown at h
  refine xo_2 rfl ?_
  refine xm_33 (i := 4160) (q := 66) (jSrd_ok hS rd) ly65 rfl (xm_P (jSrd_ok hS rd) (by decide)) ?_
  refine xo_8 ?_
  refine xo_8 ?_
  refine xm_41 (j := 1) (jSrd_ok hS rd) ly66 ⟨Nat.le_of_ble_eq_true rfl, Nat.le_of_ble_eq_true rfl⟩ (by decide) (by decide) ?_
  refine xo_2 rfl ?_
  refine xm_33 (i := 4160) (q := 66) (jSrd_ok hS rd) ly65 rfl (xm_P (jSrd_ok hS rd) (by decide)) ?_
  refine xo_8 ?_
  refine xo_8 ?_
  refine xm_41 (j := 2) (jSrd_ok hS rd) ly66 ⟨Nat.le_of_ble_eq_true rfl, Nat.le_of_ble_eq_true rfl⟩ (by decide) (by decide) ?_
  refine xo_2 rfl ?_
  refine xm_33 (i := 4160) (q := 66) (jSrd_ok hS rd) ly65 rfl (xm_P (jSrd_ok hS rd) (by decide)) ?_
  refine xo_8 ?_
  refine xo_8 ?_
  refine xm_41 (j := 3) (jSrd_ok hS rd) ly66 ⟨Nat.le_of_ble_eq_true rfl, Nat.le_of_ble_eq_true rfl⟩ (by decide) (by decide) ?_
  replace h := jw_some h
  exact xo_71 h
/-- OfDifferentMindsModel.dismount, at ['m'] K -/
def f_X11_dismount (σ : jT) : Option (Int32 × jT) :=
  (f_X11_isRidden (gs σ 4172 0)).bind fun q1 =>
  if ¬ q1.1 = 0 then
    (f_X11_remember_66 q1.2).bind fun q3 =>
    (f_X11_goDown q3.2).bind fun q4 =>
    some ((q4.2.2 66 0), q4.2)
  else
    some ((-2), q1.2)
theorem t_X11_dismount {S : jS} (hS : jMok S) {d : Nat} {Q : Option Value → jx_H → Prop} {rd : Value} {σ : jT} (h : jw (f_X11_dismount σ) (fun q => Q (some (.int q.1)) (jh (jSrd S rd) q.2))) : jx_Sp (d + 2) 247 [.ref 65] (jh (jSrd S rd) σ) Q := by
  refine ⟨jm_i247, jm_at247, rfl, rfl, ?_⟩
  show jx_Ex _ jm_l247 jm_b247_0 [.ref 65] [] _ _
  unfold f_X11_dismount at h
  refine xo_2 rfl ?_
  refine xo_8 ?_
  refine xm_34 (i := 4172) (jSrd_ok hS rd) ly65 rfl ⟨Nat.le_of_ble_eq_true rfl, Nat.le_of_ble_eq_true rfl⟩ ?_
  refine xo_2 rfl ?_
  refine xo_49 (st' := []) rfl rfl (xm_ly (jSrd_ok hS rd) ly65) rfl (Nat.le_of_ble_eq_true rfl) ?_
  refine t_X11_isRidden hS ?_
  refine jw_mono (jw_bind h) (fun q1 h => ?_)
  show jx_Ex _ _ _ _ [.int q1.1] (jh (jSrd S rd) q1.2) _
  refine xo_56 (t := jm_b247_15) rfl (fun hc2 => ?_) (fun hc2 => ?_)
  · replace h := jw_pos hc2 h
    refine xo_2 rfl ?_
    refine xo_2 rfl ?_
    refine xm_33 (i := 4160) (q := 66) (jSrd_ok hS rd) ly65 rfl (xm_P (jSrd_ok hS rd) (by decide)) ?_
    refine xo_49 (st' := []) rfl rfl (xm_ly (jSrd_ok hS rd) ly65) rfl (Nat.le_of_ble_eq_true rfl) ?_
    refine t_X11_remember_66 hS ?_
    refine jw_mono (jw_bind h) (fun q3 h => ?_)
    show jx_Ex _ _ _ _ [] (jh (jSrd S rd) q3.2) _
    refine xo_2 rfl ?_
    refine xo_49 (st' := []) rfl rfl (xm_ly (jSrd_ok hS rd) ly65) rfl (Nat.le_of_ble_eq_true rfl) ?_
    refine t_X11_goDown hS ?_
    refine jw_mono (jw_bind h) (fun q4 h => ?_)
    show jx_Ex _ _ _ _ [] (jh (jSrd S rd) q4.2) _
    refine xo_2 rfl ?_
    refine xm_33 (i := 4160) (q := 66) (jSrd_ok hS rd) ly65 rfl (xm_P (jSrd_ok hS rd) (by decide)) ?_
    refine xo_8 ?_
    refine xm_38 (j := 0) (v := (q4.2.2 66 0)) (jSrd_ok hS rd) ly66 ⟨Nat.le_of_ble_eq_true rfl, Nat.le_of_ble_eq_true rfl⟩ (by decide) (by decide) rfl ?_
    replace h := jw_some h
    exact xo_69 h
  · replace h := jw_neg hc2 h
    refine xo_9 ?_
    replace h := jw_some h
    exact xo_69 h
/-- OfDifferentMindsModel.lay, at ['m.now', 'm.aside', 'int'] K -/
def f_X11_lay_66_80_b2 : Nat → Int32 → Int32 → jT → Option (Int32 × jT)
  | 0, _, _, _ => none
  | n + 1, x2, x3, σ =>
    if 28 ≤ x3 then
      some (0, σ)
    else
      if jx_in x3 28 then
      if jx_in (x2 + x3) 28 then
      f_X11_lay_66_80_b2 n x2 (x3 + 1) (gA σ 80 (x2 + x3).toNatClampNeg (σ.2 66 x3.toNatClampNeg))
      else none
      else none
def f_X11_lay_66_80 (x2 : Int32) (σ : jT) : Option (Int32 × jT) :=
  f_X11_lay_66_80_b2 1000 x2 0 σ
theorem t_X11_lay_66_80_b2 {S : jS} (hS : jMok S) {d : Nat} {Q : Option Value → jx_H → Prop} {rd : Value} : ∀ (n : Nat) {x2 : Int32} {x3 : Int32} {σ : jT}, jw (f_X11_lay_66_80_b2 n x2 x3 σ) (fun q => Q none (jh (jSrd S rd) q.2)) → jx_Ex (d) jm_l241 jm_b241_2 [.ref 66, .ref 80, .int x2, .int x3] [] (jh (jSrd S rd) σ) Q := by
  intro n
  induction n with
  | zero => intro x2 x3 σ h; exact jw_none h
  | succ n ih =>
    intro x2 x3 σ h
    rw [f_X11_lay_66_80_b2] at h
    refine xo_0 rfl ?_
    refine xo_9 ?_
    refine xo_64 (t := jm_b241_22) rfl (fun hc1 => ?_) (fun hc1 => ?_)
    · replace h := jw_pos hc1 h
      replace h := jw_some h
      exact xo_71 h
    · replace h := jw_neg hc1 h
      refine xo_2 rfl ?_
      refine xo_0 rfl ?_
      refine xo_0 rfl ?_
      refine xo_14 ?_
      refine xo_2 rfl ?_
      refine xo_0 rfl ?_
      obtain ⟨hi2, h⟩ := jw_chk h
      refine xm_38 (j := x3.toNatClampNeg) (v := (σ.2 66 x3.toNatClampNeg)) (jSrd_ok hS rd) ly66 ⟨Nat.le_of_ble_eq_true rfl, Nat.le_of_ble_eq_true rfl⟩ hi2 rfl rfl ?_
      obtain ⟨hi3, h⟩ := jw_chk h
      refine xm_41 (j := (x2 + x3).toNatClampNeg) (jSrd_ok hS rd) ly80 ⟨Nat.le_of_ble_eq_true rfl, Nat.le_of_ble_eq_true rfl⟩ hi3 rfl ?_
      refine xo_13 (ls' := [.ref 66, .ref 80, .int x2, .int (x3 + 1)]) rfl rfl ?_
      refine xo_54 (t := jm_b241_2) rfl ?_
      exact ih h
theorem t_X11_lay_66_80 {S : jS} (hS : jMok S) {d : Nat} {Q : Option Value → jx_H → Prop} {rd : Value} {x2 : Int32} {σ : jT} (h : jw (f_X11_lay_66_80 x2 σ) (fun q => Q none (jh (jSrd S rd) q.2))) : jx_Sp (d) 241 [.ref 66, .ref 80, .int x2] (jh (jSrd S rd) σ) Q := by
  refine ⟨jm_i241, jm_at241, rfl, rfl, ?_⟩
  show jx_Ex _ jm_l241 jm_b241_0 [.ref 66, .ref 80, .int x2, .retAddr 0] [] _ _
  unfold f_X11_lay_66_80 at h
  refine xo_8 ?_
  refine xo_4 (ls' := [.ref 66, .ref 80, .int x2, .int 0]) rfl ?_
  exact t_X11_lay_66_80_b2 hS 1000 h
/-- OfDifferentMindsModel.goesOn, at ['m', 'm.now'] K -/
def f_X11_goesOn_66 (σ : jT) : Option (Int32 × jT) :=
  if jx_in (σ.2 66 0) 10 then
  if (σ.2 67 (σ.2 66 0).toNatClampNeg) ≤ 0 then
    some (0, σ)
  else
    (f_X11_viewOf_66 (σ.2 66 1) (σ.2 66 0) σ).bind fun q3 =>
    (f_X11_viewOf_66 (q3.2.2 66 2) (σ.2 66 0) q3.2).bind fun q4 =>
    if q3.1 = q4.1 then
      some (0, q4.2)
    else
      some (1, q4.2)
  else none
theorem t_X11_goesOn_66 {S : jS} (hS : jMok S) {d : Nat} {Q : Option Value → jx_H → Prop} {rd : Value} {σ : jT} (h : jw (f_X11_goesOn_66 σ) (fun q => Q (some (.int q.1)) (jh (jSrd S rd) q.2))) : jx_Sp (d + 1) 234 [.ref 65, .ref 66] (jh (jSrd S rd) σ) Q := by
  refine ⟨jm_i234, jm_at234, rfl, rfl, ?_⟩
  show jx_Ex _ jm_l234 jm_b234_0 [.ref 65, .ref 66, .retAddr 0] [] _ _
  unfold f_X11_goesOn_66 at h
  refine xo_2 rfl ?_
  refine xo_8 ?_
  refine xm_38 (j := 0) (v := (σ.2 66 0)) (jSrd_ok hS rd) ly66 ⟨Nat.le_of_ble_eq_true rfl, Nat.le_of_ble_eq_true rfl⟩ (by decide) (by decide) rfl ?_
  refine xo_4 (ls' := [.ref 65, .ref 66, .int (σ.2 66 0)]) rfl ?_
  refine xo_2 rfl ?_
  refine xm_33 (i := 4162) (q := 67) (jSrd_ok hS rd) ly65 rfl (xm_P (jSrd_ok hS rd) (by decide)) ?_
  refine xo_0 rfl ?_
  obtain ⟨hi1, h⟩ := jw_chk h
  refine xm_38 (j := (σ.2 66 0).toNatClampNeg) (v := (σ.2 67 (σ.2 66 0).toNatClampNeg)) (jSrd_ok hS rd) ly67 ⟨Nat.le_of_ble_eq_true rfl, Nat.le_of_ble_eq_true rfl⟩ hi1 rfl rfl ?_
  refine xo_60 (t := jm_b234_38) rfl (fun hc2 => ?_) (fun hc2 => ?_)
  · replace h := jw_pos hc2 h
    refine xo_8 ?_
    replace h := jw_some h
    exact xo_70 (by decide) h
  · replace h := jw_neg hc2 h
    refine xo_2 rfl ?_
    refine xo_2 rfl ?_
    refine xo_2 rfl ?_
    refine xo_8 ?_
    refine xm_38 (j := 1) (v := (σ.2 66 1)) (jSrd_ok hS rd) ly66 ⟨Nat.le_of_ble_eq_true rfl, Nat.le_of_ble_eq_true rfl⟩ (by decide) (by decide) rfl ?_
    refine xo_0 rfl ?_
    refine xo_49 (st' := []) rfl rfl (xm_ly (jSrd_ok hS rd) ly65) rfl (Nat.le_of_ble_eq_true rfl) ?_
    refine t_X11_viewOf_66 hS ?_
    refine jw_mono (jw_bind h) (fun q3 h => ?_)
    show jx_Ex _ _ _ _ [.int q3.1] (jh (jSrd S rd) q3.2) _
    refine xo_2 rfl ?_
    refine xo_2 rfl ?_
    refine xo_2 rfl ?_
    refine xo_8 ?_
    refine xm_38 (j := 2) (v := (q3.2.2 66 2)) (jSrd_ok hS rd) ly66 ⟨Nat.le_of_ble_eq_true rfl, Nat.le_of_ble_eq_true rfl⟩ (by decide) (by decide) rfl ?_
    refine xo_0 rfl ?_
    refine xo_49 (st' := [.int q3.1]) rfl rfl (xm_ly (jSrd_ok hS rd) ly65) rfl (Nat.le_of_ble_eq_true rfl) ?_
    refine t_X11_viewOf_66 hS ?_
    refine jw_mono (jw_bind h) (fun q4 h => ?_)
    show jx_Ex _ _ _ _ [.int q4.1, .int q3.1] (jh (jSrd S rd) q4.2) _
    refine xo_61 (t := jm_b234_38) rfl (fun hc5 => ?_) (fun hc5 => ?_)
    · replace h := jw_pos hc5 h
      refine xo_8 ?_
      replace h := jw_some h
      exact xo_70 (by decide) h
    · replace h := jw_neg hc5 h
      refine xo_8 ?_
      refine xo_54 (t := jm_b234_39) rfl ?_
      replace h := jw_some h
      exact xo_70 (by decide) h
/-- OfDifferentMindsModel.leftOf, at ['m', 'm.now', 'int'] K -/
def f_X11_leftOf_66 (x2 : Int32) (σ : jT) : Option (Int32 × jT) :=
  if jx_in x2 6 then
  if jx_in (4 + x2) 28 then
  some (((σ.2 69 x2.toNatClampNeg) - (σ.2 66 (4 + x2).toNatClampNeg)), σ)
  else none
  else none
theorem t_X11_leftOf_66 {S : jS} (hS : jMok S) {d : Nat} {Q : Option Value → jx_H → Prop} {rd : Value} {x2 : Int32} {σ : jT} (h : jw (f_X11_leftOf_66 x2 σ) (fun q => Q (some (.int q.1)) (jh (jSrd S rd) q.2))) : jx_Sp (d) 233 [.ref 65, .ref 66, .int x2] (jh (jSrd S rd) σ) Q := by
  refine ⟨jm_i233, jm_at233, rfl, rfl, ?_⟩
  show jx_Ex _ jm_l233 jm_b233_0 [.ref 65, .ref 66, .int x2] [] _ _
  unfold f_X11_leftOf_66 at h
  refine xo_2 rfl ?_
  refine xm_33 (i := 4166) (q := 69) (jSrd_ok hS rd) ly65 rfl (xm_P (jSrd_ok hS rd) (by decide)) ?_
  refine xo_0 rfl ?_
  obtain ⟨hi1, h⟩ := jw_chk h
  refine xm_38 (j := x2.toNatClampNeg) (v := (σ.2 69 x2.toNatClampNeg)) (jSrd_ok hS rd) ly69 ⟨Nat.le_of_ble_eq_true rfl, Nat.le_of_ble_eq_true rfl⟩ hi1 rfl rfl ?_
  refine xo_2 rfl ?_
  refine xo_8 ?_
  refine xo_0 rfl ?_
  refine xo_14 ?_
  obtain ⟨hi2, h⟩ := jw_chk h
  refine xm_38 (j := (4 + x2).toNatClampNeg) (v := (σ.2 66 (4 + x2).toNatClampNeg)) (jSrd_ok hS rd) ly66 ⟨Nat.le_of_ble_eq_true rfl, Nat.le_of_ble_eq_true rfl⟩ hi2 rfl rfl ?_
  refine xo_15 ?_
  replace h := jw_some h
  exact xo_69 h
/-- OfDifferentMindsModel.begin, at ['m', 'm.rule', 'int', 'int'] B -/
def f_X11_begin_77 (x2 : Int32) (x3 : Int32) (σ : jT) : Option (Int32 × jT) :=
  some (0, (gs (gs (gs (gs σ 4174 x2) 4175 x3) 4176 0) 4177 (-1)))
theorem t_X11_begin_77 {S : jS} (hS : jMok S) {d : Nat} {Q : Option Value → jx_H → Prop} {rd : Value} {x2 : Int32} {x3 : Int32} {σ : jT} (h : jw (f_X11_begin_77 x2 x3 σ) (fun q => Q none (jh (jSrd S (.ref 77)) q.2))) : jx_Sp (d) 213 [.ref 65, .ref 77, .int x2, .int x3] (jh (jSrd S rd) σ) Q := by
  refine ⟨jm_i213, jm_at213, rfl, rfl, ?_⟩
  show jx_Ex _ jm_l213 jm_b213_0 [.ref 65, .ref 77, .int x2, .int x3] [] _ _
  unfold f_X11_begin_77 at h
  refine xo_2 rfl ?_
  refine xo_2 rfl ?_
  refine xm_36 (i := 4173) hS ly65 rfl rfl ?_
  refine xo_2 rfl ?_
  refine xo_0 rfl ?_
  refine xm_34 (i := 4174) (jSrd_ok hS (.ref 77)) ly65 rfl ⟨Nat.le_of_ble_eq_true rfl, Nat.le_of_ble_eq_true rfl⟩ ?_
  refine xo_2 rfl ?_
  refine xo_0 rfl ?_
  refine xm_34 (i := 4175) (jSrd_ok hS (.ref 77)) ly65 rfl ⟨Nat.le_of_ble_eq_true rfl, Nat.le_of_ble_eq_true rfl⟩ ?_
  refine xo_2 rfl ?_
  refine xo_8 ?_
  refine xm_34 (i := 4176) (jSrd_ok hS (.ref 77)) ly65 rfl ⟨Nat.le_of_ble_eq_true rfl, Nat.le_of_ble_eq_true rfl⟩ ?_
  refine xo_2 rfl ?_
  refine xo_8 ?_
  refine xm_34 (i := 4177) (jSrd_ok hS (.ref 77)) ly65 rfl ⟨Nat.le_of_ble_eq_true rfl, Nat.le_of_ble_eq_true rfl⟩ ?_
  replace h := jw_some h
  exact xo_71 h
/-- OfDifferentMindsModel.here, at ['m'] R -/
def f_X11_here_R (σ : jT) : Option (Int32 × jT) :=
  if (σ.1 4174) ≤ (σ.1 4176) then
    some ((-1), σ)
  else
    if (σ.1 4175) ≤ (σ.1 4176) then
      some ((-1), σ)
    else
      if jx_in (σ.1 4176) 40 then
      some (((σ.2 77 (σ.1 4176).toNatClampNeg) &&& 255), σ)
      else none
theorem t_X11_here_R {S : jS} (hS : jMok S) {d : Nat} {Q : Option Value → jx_H → Prop} {σ : jT} (h : jw (f_X11_here_R σ) (fun q => Q (some (.int q.1)) (jh (jSrd S (.ref 77)) q.2))) : jx_Sp (d) 214 [.ref 65] (jh (jSrd S (.ref 77)) σ) Q := by
  refine ⟨jm_i214, jm_at214, rfl, rfl, ?_⟩
  show jx_Ex _ jm_l214 jm_b214_0 [.ref 65] [] _ _
  unfold f_X11_here_R at h
  refine xo_2 rfl ?_
  refine xm_32 (i := 4176) (v := (σ.1 4176)) (jSrd_ok hS (.ref 77)) ly65 rfl ⟨Nat.le_of_ble_eq_true rfl, Nat.le_of_ble_eq_true rfl⟩ rfl ?_
  refine xo_2 rfl ?_
  refine xm_32 (i := 4174) (v := (σ.1 4174)) (jSrd_ok hS (.ref 77)) ly65 rfl ⟨Nat.le_of_ble_eq_true rfl, Nat.le_of_ble_eq_true rfl⟩ rfl ?_
  refine xo_64 (t := jm_b214_38) rfl (fun hc1 => ?_) (fun hc1 => ?_)
  · replace h := jw_pos hc1 h
    refine xo_8 ?_
    replace h := jw_some h
    exact xo_69 h
  · replace h := jw_neg hc1 h
    refine xo_2 rfl ?_
    refine xm_32 (i := 4176) (v := (σ.1 4176)) (jSrd_ok hS (.ref 77)) ly65 rfl ⟨Nat.le_of_ble_eq_true rfl, Nat.le_of_ble_eq_true rfl⟩ rfl ?_
    refine xo_2 rfl ?_
    refine xm_32 (i := 4175) (v := (σ.1 4175)) (jSrd_ok hS (.ref 77)) ly65 rfl ⟨Nat.le_of_ble_eq_true rfl, Nat.le_of_ble_eq_true rfl⟩ rfl ?_
    refine xo_64 (t := jm_b214_38) rfl (fun hc2 => ?_) (fun hc2 => ?_)
    · replace h := jw_pos hc2 h
      refine xo_8 ?_
      replace h := jw_some h
      exact xo_69 h
    · replace h := jw_neg hc2 h
      refine xo_2 rfl ?_
      refine xm_33 (i := 4173) (q := 77) (jSrd_ok hS (.ref 77)) ly65 rfl (jSrd_rd _) ?_
      refine xo_2 rfl ?_
      refine xm_32 (i := 4176) (v := (σ.1 4176)) (jSrd_ok hS (.ref 77)) ly65 rfl ⟨Nat.le_of_ble_eq_true rfl, Nat.le_of_ble_eq_true rfl⟩ rfl ?_
      obtain ⟨hi3, h⟩ := jw_chk h
      refine xm_39 (j := (σ.1 4176).toNatClampNeg) (v := (σ.2 77 (σ.1 4176).toNatClampNeg)) (jSrd_ok hS (.ref 77)) (Or.inl ly77) ⟨Nat.le_of_ble_eq_true rfl, Nat.le_of_ble_eq_true rfl⟩ hi3 rfl rfl ?_
      refine xo_10 ?_
      refine xo_20 ?_
      refine xo_54 (t := jm_b214_39) rfl ?_
      replace h := jw_some h
      exact xo_69 h
