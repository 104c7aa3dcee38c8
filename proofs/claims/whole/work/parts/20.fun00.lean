/-! ===== methods as functions ===== -/
/-- Text.add, at ['x.text', 'int'] -/
def f_X9_add_b16 : Nat → Int32 → Int32 → jT → Option (Int32 × jT)
  | 0, _, _, _ => none
  | n + 1, x1, x2, σ =>
    if x2 < 0 then
      some ((σ.1 65), σ)
    else
      if jx_in (σ.1 65) 80 then
      f_X9_add_b16 n x1 (x2 + (-8)) (gs (gA σ 2 (σ.1 65).toNatClampNeg (((x1.toUInt32 >>> (x2.toUInt32 &&& Int32.toUInt32 31)).toInt32) &&& 255)) 65 ((σ.1 65) + 1))
      else none
def f_X9_add (x1 : Int32) (σ : jT) : Option (Int32 × jT) :=
  if ((σ.1 65) + 4) ≤ 80 then
    f_X9_add_b16 1000 x1 24 σ
  else
    some ((-1), σ)
theorem t_X9_add_b16 {S : jS} (hS : jCok S) {d : Nat} {Q : Option Value → jx_H → Prop} : ∀ (n : Nat) {x1 : Int32} {x2 : Int32} {σ : jT}, jw (f_X9_add_b16 n x1 x2 σ) (fun q => Q (some (.int q.1)) (jh S q.2)) → jx_Ex (d) jm_l115 jm_b115_16 [.ref 1, .int x1, .int x2] [] (jh S σ) Q := by
  intro n
  induction n with
  | zero => intro x1 x2 σ h; exact jw_none h
  | succ n ih =>
    intro x1 x2 σ h
    rw [f_X9_add_b16] at h
    refine xo_0 rfl ?_
    refine xo_57 (t := jm_b115_52) rfl (fun hc1 => ?_) (fun hc1 => ?_)
    · replace h := jw_pos hc1 h
      refine xo_2 rfl ?_
      refine xc_32 (i := 65) (v := (σ.1 65)) hS ly1 rfl ⟨Nat.le_of_ble_eq_true rfl, Nat.le_of_ble_eq_true rfl⟩ rfl ?_
      replace h := jw_some h
      exact xo_69 h
    · replace h := jw_neg hc1 h
      refine xo_2 rfl ?_
      refine xc_33 (i := 64) (q := 2) hS ly1 rfl (xc_P hS (by decide)) ?_
      refine xo_2 rfl ?_
      refine xc_32 (i := 65) (v := (σ.1 65)) hS ly1 rfl ⟨Nat.le_of_ble_eq_true rfl, Nat.le_of_ble_eq_true rfl⟩ rfl ?_
      refine xo_0 rfl ?_
      refine xo_0 rfl ?_
      refine xo_25 ?_
      refine xo_10 ?_
      refine xo_20 ?_
      obtain ⟨hi2, h⟩ := jw_chk h
      refine xc_41 (j := (σ.1 65).toNatClampNeg) hS ly2 ⟨Nat.le_of_ble_eq_true rfl, Nat.le_of_ble_eq_true rfl⟩ hi2 rfl ?_
      refine xo_2 rfl ?_
      refine xo_28r ?_
      refine xc_32 (i := 65) (v := (σ.1 65)) hS ly1 rfl ⟨Nat.le_of_ble_eq_true rfl, Nat.le_of_ble_eq_true rfl⟩ rfl ?_
      refine xo_8 ?_
      refine xo_14 ?_
      refine xc_34 (i := 65) hS ly1 rfl ⟨Nat.le_of_ble_eq_true rfl, Nat.le_of_ble_eq_true rfl⟩ ?_
      refine xo_13 (ls' := [.ref 1, .int x1, .int (x2 + (-8))]) rfl rfl ?_
      refine xo_54 (t := jm_b115_16) rfl ?_
      exact ih h
theorem t_X9_add {S : jS} (hS : jCok S) {d : Nat} {Q : Option Value → jx_H → Prop} {x1 : Int32} {σ : jT} (h : jw (f_X9_add x1 σ) (fun q => Q (some (.int q.1)) (jh S q.2))) : jx_Sp (d) 115 [.ref 1, .int x1] (jh S σ) Q := by
  refine ⟨jm_i115, jm_at115, rfl, rfl, ?_⟩
  show jx_Ex _ jm_l115 jm_b115_0 [.ref 1, .int x1, .retAddr 0] [] _ _
  unfold f_X9_add at h
  refine xo_2 rfl ?_
  refine xc_32 (i := 65) (v := (σ.1 65)) hS ly1 rfl ⟨Nat.le_of_ble_eq_true rfl, Nat.le_of_ble_eq_true rfl⟩ rfl ?_
  refine xo_8 ?_
  refine xo_14 ?_
  refine xo_9 ?_
  refine xo_66 (t := jm_b115_13) rfl (fun hc1 => ?_) (fun hc1 => ?_)
  · replace h := jw_pos hc1 h
    refine xo_9 ?_
    refine xo_4 (ls' := [.ref 1, .int x1, .int 24]) rfl ?_
    exact t_X9_add_b16 hS 1000 h
  · replace h := jw_neg hc1 h
    refine xo_8 ?_
    replace h := jw_some h
    exact xo_69 h
/-- OfDifferentMinds.sign, at ['x', 'int'] -/
def f_X10_sign (x1 : Int32) (σ : jT) : Option (Int32 × jT) :=
  (f_X9_add x1 σ).bind fun q1 =>
  some (q1.1, q1.2)
theorem t_X10_sign {S : jS} (hS : jCok S) {d : Nat} {Q : Option Value → jx_H → Prop} {x1 : Int32} {σ : jT} (h : jw (f_X10_sign x1 σ) (fun q => Q (some (.int q.1)) (jh S q.2))) : jx_Sp (d + 1) 129 [.ref 0, .int x1] (jh S σ) Q := by
  refine ⟨jm_i129, jm_at129, rfl, rfl, ?_⟩
  show jx_Ex _ jm_l129 jm_b129_0 [.ref 0, .int x1] [] _ _
  unfold f_X10_sign at h
  refine xo_2 rfl ?_
  refine xc_33 (i := 0) (q := 1) hS ly0 rfl (xc_P hS (by decide)) ?_
  refine xo_0 rfl ?_
  refine xo_49 (st' := []) rfl rfl (xc_ly hS ly1) rfl (Nat.le_of_ble_eq_true rfl) ?_
  refine t_X9_add hS ?_
  refine jw_mono (jw_bind h) (fun q1 h => ?_)
  show jx_Ex _ _ _ _ [.int q1.1] (jh S q1.2) _
  replace h := jw_some h
  exact xo_69 h
/-- Text.cut, at ['x.text', 'int'] -/
def f_X9_cut (x1 : Int32) (σ : jT) : Option (Int32 × jT) :=
  if x1 < 0 then
    some (0, σ)
  else
    if x1 ≤ (σ.1 65) then
      some (1, (gs σ 65 x1))
    else
      some (0, σ)
theorem t_X9_cut {S : jS} (hS : jCok S) {d : Nat} {Q : Option Value → jx_H → Prop} {x1 : Int32} {σ : jT} (h : jw (f_X9_cut x1 σ) (fun q => Q (some (.int q.1)) (jh S q.2))) : jx_Sp (d) 116 [.ref 1, .int x1] (jh S σ) Q := by
  refine ⟨jm_i116, jm_at116, rfl, rfl, ?_⟩
  show jx_Ex _ jm_l116 jm_b116_0 [.ref 1, .int x1] [] _ _
  unfold f_X9_cut at h
  refine xo_0 rfl ?_
  refine xo_57 (t := jm_b116_12) rfl (fun hc1 => ?_) (fun hc1 => ?_)
  · replace h := jw_pos hc1 h
    refine xo_8 ?_
    replace h := jw_some h
    exact xo_70 (by decide) h
  · replace h := jw_neg hc1 h
    refine xo_0 rfl ?_
    refine xo_2 rfl ?_
    refine xc_32 (i := 65) (v := (σ.1 65)) hS ly1 rfl ⟨Nat.le_of_ble_eq_true rfl, Nat.le_of_ble_eq_true rfl⟩ rfl ?_
    refine xo_66 (t := jm_b116_14) rfl (fun hc2 => ?_) (fun hc2 => ?_)
    · replace h := jw_pos hc2 h
      refine xo_2 rfl ?_
      refine xo_0 rfl ?_
      refine xc_34 (i := 65) hS ly1 rfl ⟨Nat.le_of_ble_eq_true rfl, Nat.le_of_ble_eq_true rfl⟩ ?_
      refine xo_8 ?_
      replace h := jw_some h
      exact xo_70 (by decide) h
    · replace h := jw_neg hc2 h
      refine xo_8 ?_
      replace h := jw_some h
      exact xo_70 (by decide) h
/-- OfDifferentMinds.end, at ['x', 'int'] -/
def f_X10_end (x1 : Int32) (σ : jT) : Option (Int32 × jT) :=
  (f_X9_cut x1 σ).bind fun q1 =>
  if q1.1 = 0 ∨ q1.1 = 1 then
  some (q1.1, q1.2)
  else none
theorem t_X10_end {S : jS} (hS : jCok S) {d : Nat} {Q : Option Value → jx_H → Prop} {x1 : Int32} {σ : jT} (h : jw (f_X10_end x1 σ) (fun q => Q (some (.int q.1)) (jh S q.2))) : jx_Sp (d + 1) 130 [.ref 0, .int x1] (jh S σ) Q := by
  refine ⟨jm_i130, jm_at130, rfl, rfl, ?_⟩
  show jx_Ex _ jm_l130 jm_b130_0 [.ref 0, .int x1] [] _ _
  unfold f_X10_end at h
  refine xo_2 rfl ?_
  refine xc_33 (i := 0) (q := 1) hS ly0 rfl (xc_P hS (by decide)) ?_
  refine xo_0 rfl ?_
  refine xo_49 (st' := []) rfl rfl (xc_ly hS ly1) rfl (Nat.le_of_ble_eq_true rfl) ?_
  refine t_X9_cut hS ?_
  refine jw_mono (jw_bind h) (fun q1 h => ?_)
  show jx_Ex _ _ _ _ [.int q1.1] (jh S q1.2) _
  obtain ⟨hz2, h⟩ := jw_chk h
  replace h := jw_some h
  exact xo_70 hz2 h
/-- Text.open, at ['x.text', 'int'] -/
def f_X9_open (x1 : Int32) (σ : jT) : Option (Int32 × jT) :=
  some (0, (gs (gs σ 66 x1) 67 0))
theorem t_X9_open {S : jS} (hS : jCok S) {d : Nat} {Q : Option Value → jx_H → Prop} {x1 : Int32} {σ : jT} (h : jw (f_X9_open x1 σ) (fun q => Q none (jh S q.2))) : jx_Sp (d) 118 [.ref 1, .int x1] (jh S σ) Q := by
  refine ⟨jm_i118, jm_at118, rfl, rfl, ?_⟩
  show jx_Ex _ jm_l118 jm_b118_0 [.ref 1, .int x1] [] _ _
  unfold f_X9_open at h
  refine xo_2 rfl ?_
  refine xo_0 rfl ?_
  refine xc_34 (i := 66) hS ly1 rfl ⟨Nat.le_of_ble_eq_true rfl, Nat.le_of_ble_eq_true rfl⟩ ?_
  refine xo_2 rfl ?_
  refine xo_8 ?_
  refine xc_34 (i := 67) hS ly1 rfl ⟨Nat.le_of_ble_eq_true rfl, Nat.le_of_ble_eq_true rfl⟩ ?_
  replace h := jw_some h
  exact xo_71 h
/-- Text.position, at ['x.text'] -/
def f_X9_position (σ : jT) : Option (Int32 × jT) :=
  some ((σ.1 67), σ)
theorem t_X9_position {S : jS} (hS : jCok S) {d : Nat} {Q : Option Value → jx_H → Prop} {σ : jT} (h : jw (f_X9_position σ) (fun q => Q (some (.int q.1)) (jh S q.2))) : jx_Sp (d) 119 [.ref 1] (jh S σ) Q := by
  refine ⟨jm_i119, jm_at119, rfl, rfl, ?_⟩
  show jx_Ex _ jm_l119 jm_b119_0 [.ref 1] [] _ _
  unfold f_X9_position at h
  refine xo_2 rfl ?_
  refine xc_32 (i := 67) (v := (σ.1 67)) hS ly1 rfl ⟨Nat.le_of_ble_eq_true rfl, Nat.le_of_ble_eq_true rfl⟩ rfl ?_
  replace h := jw_some h
  exact xo_69 h
/-- Text.peek, at ['x.text'] -/
def f_X9_peek (σ : jT) : Option (Int32 × jT) :=
  if (σ.1 66) ≤ (σ.1 67) then
    some ((-1), σ)
  else
    if (σ.1 65) ≤ (σ.1 67) then
      some ((-1), σ)
    else
      if jx_in (σ.1 67) 80 then
      some ((σ.2 2 (σ.1 67).toNatClampNeg), σ)
      else none
theorem t_X9_peek {S : jS} (hS : jCok S) {d : Nat} {Q : Option Value → jx_H → Prop} {σ : jT} (h : jw (f_X9_peek σ) (fun q => Q (some (.int q.1)) (jh S q.2))) : jx_Sp (d) 120 [.ref 1] (jh S σ) Q := by
  refine ⟨jm_i120, jm_at120, rfl, rfl, ?_⟩
  show jx_Ex _ jm_l120 jm_b120_0 [.ref 1] [] _ _
  unfold f_X9_peek at h
  refine xo_2 rfl ?_
  refine xc_32 (i := 67) (v := (σ.1 67)) hS ly1 rfl ⟨Nat.le_of_ble_eq_true rfl, Nat.le_of_ble_eq_true rfl⟩ rfl ?_
  refine xo_2 rfl ?_
  refine xc_32 (i := 66) (v := (σ.1 66)) hS ly1 rfl ⟨Nat.le_of_ble_eq_true rfl, Nat.le_of_ble_eq_true rfl⟩ rfl ?_
  refine xo_64 (t := jm_b120_34) rfl (fun hc1 => ?_) (fun hc1 => ?_)
  · replace h := jw_pos hc1 h
    refine xo_8 ?_
    replace h := jw_some h
    exact xo_69 h
  · replace h := jw_neg hc1 h
    refine xo_2 rfl ?_
    refine xc_32 (i := 67) (v := (σ.1 67)) hS ly1 rfl ⟨Nat.le_of_ble_eq_true rfl, Nat.le_of_ble_eq_true rfl⟩ rfl ?_
    refine xo_2 rfl ?_
    refine xc_32 (i := 65) (v := (σ.1 65)) hS ly1 rfl ⟨Nat.le_of_ble_eq_true rfl, Nat.le_of_ble_eq_true rfl⟩ rfl ?_
    refine xo_64 (t := jm_b120_34) rfl (fun hc2 => ?_) (fun hc2 => ?_)
    · replace h := jw_pos hc2 h
      refine xo_8 ?_
      replace h := jw_some h
      exact xo_69 h
    · replace h := jw_neg hc2 h
      refine xo_2 rfl ?_
      refine xc_33 (i := 64) (q := 2) hS ly1 rfl (xc_P hS (by decide)) ?_
      refine xo_2 rfl ?_
      refine xc_32 (i := 67) (v := (σ.1 67)) hS ly1 rfl ⟨Nat.le_of_ble_eq_true rfl, Nat.le_of_ble_eq_true rfl⟩ rfl ?_
      obtain ⟨hi3, h⟩ := jw_chk h
      refine xc_38 (j := (σ.1 67).toNatClampNeg) (v := (σ.2 2 (σ.1 67).toNatClampNeg)) hS ly2 ⟨Nat.le_of_ble_eq_true rfl, Nat.le_of_ble_eq_true rfl⟩ hi3 rfl rfl ?_
      refine xo_54 (t := jm_b120_35) rfl ?_
      replace h := jw_some h
      exact xo_69 h
/-- Text.take, at ['x.text', 'int'] -/
def f_X9_take_b13 (s0 : Int32) (σ : jT) : Option (Int32 × jT) :=
  if s0 = 0 then
    if s0 = 0 ∨ s0 = 1 then
    some (s0, σ)
    else none
  else
    if s0 = 0 ∨ s0 = 1 then
    some (s0, (gs σ 67 ((σ.1 67) + 1)))
    else none
def f_X9_take (x1 : Int32) (σ : jT) : Option (Int32 × jT) :=
  (f_X9_peek σ).bind fun q1 =>
  if ¬ q1.1 = x1 then
    f_X9_take_b13 0 q1.2
  else
    f_X9_take_b13 1 q1.2
theorem t_X9_take_b13 {S : jS} (hS : jCok S) {d : Nat} {Q : Option Value → jx_H → Prop} {s0 : Int32} {w1 : Value} {w2 : Value} {σ : jT} (h : jw (f_X9_take_b13 s0 σ) (fun q => Q (some (.int q.1)) (jh S q.2))) : jx_Ex (d + 1) jm_l124 jm_b124_13 [.ref 1, w1, w2] [.int s0] (jh S σ) Q := by
  unfold f_X9_take_b13 at h
  refine xo_4 (ls' := [.ref 1, w1, .int s0]) rfl ?_
  refine xo_0 rfl ?_
  refine xo_55 (t := jm_b124_28) rfl (fun hc1 => ?_) (fun hc1 => ?_)
  · replace h := jw_pos hc1 h
    refine xo_0 rfl ?_
    obtain ⟨hz2, h⟩ := jw_chk h
    replace h := jw_some h
    exact xo_70 hz2 h
  · replace h := jw_neg hc1 h
    refine xo_2 rfl ?_
    refine xo_28r ?_
    refine xc_32 (i := 67) (v := (σ.1 67)) hS ly1 rfl ⟨Nat.le_of_ble_eq_true rfl, Nat.le_of_ble_eq_true rfl⟩ rfl ?_
    refine xo_8 ?_
    refine xo_14 ?_
    refine xc_34 (i := 67) hS ly1 rfl ⟨Nat.le_of_ble_eq_true rfl, Nat.le_of_ble_eq_true rfl⟩ ?_
    refine xo_0 rfl ?_
    obtain ⟨hz3, h⟩ := jw_chk h
    replace h := jw_some h
    exact xo_70 hz3 h
theorem t_X9_take {S : jS} (hS : jCok S) {d : Nat} {Q : Option Value → jx_H → Prop} {x1 : Int32} {σ : jT} (h : jw (f_X9_take x1 σ) (fun q => Q (some (.int q.1)) (jh S q.2))) : jx_Sp (d + 1) 124 [.ref 1, .int x1] (jh S σ) Q := by
  refine ⟨jm_i124, jm_at124, rfl, rfl, ?_⟩
  show jx_Ex _ jm_l124 jm_b124_0 [.ref 1, .int x1, .retAddr 0] [] _ _
  unfold f_X9_take at h
  refine xo_2 rfl ?_
  refine xo_49 (st' := []) rfl rfl (xc_ly hS ly1) rfl (Nat.le_of_ble_eq_true rfl) ?_
  refine t_X9_peek hS ?_
  refine jw_mono (jw_bind h) (fun q1 h => ?_)
  show jx_Ex _ _ _ _ [.int q1.1] (jh S q1.2) _
  refine xo_0 rfl ?_
  refine xo_62 (t := jm_b124_12) rfl (fun hc2 => ?_) (fun hc2 => ?_)
  · replace h := jw_pos hc2 h
    refine xo_8 ?_
    exact t_X9_take_b13 hS h
  · replace h := jw_neg hc2 h
    refine xo_8 ?_
    refine xo_54 (t := jm_b124_13) rfl ?_
    exact t_X9_take_b13 hS h
/-- Text.takeOf, at ['x.text', 'int', 'int'] -/
def f_X9_takeOf_b20 (s0 : Int32) (σ : jT) : Option (Int32 × jT) :=
  if s0 = 0 then
    if s0 = 0 ∨ s0 = 1 then
    some (s0, σ)
    else none
  else
    if s0 = 0 ∨ s0 = 1 then
    some (s0, (gs σ 67 ((σ.1 67) + 1)))
    else none
def f_X9_takeOf_b19 (σ : jT) : Option (Int32 × jT) :=
  f_X9_takeOf_b20 0 σ
def f_X9_takeOf (x1 : Int32) (x2 : Int32) (σ : jT) : Option (Int32 × jT) :=
  (f_X9_peek σ).bind fun q1 =>
  if q1.1 < x1 then
    f_X9_takeOf_b19 q1.2
  else
    if x2 < q1.1 then
      f_X9_takeOf_b19 q1.2
    else
      f_X9_takeOf_b20 1 q1.2
theorem t_X9_takeOf_b20 {S : jS} (hS : jCok S) {d : Nat} {Q : Option Value → jx_H → Prop} {s0 : Int32} {w1 : Value} {w2 : Value} {w3 : Value} {w4 : Value} {σ : jT} (h : jw (f_X9_takeOf_b20 s0 σ) (fun q => Q (some (.int q.1)) (jh S q.2))) : jx_Ex (d + 1) jm_l125 jm_b125_20 [.ref 1, w1, w2, w3, w4] [.int s0] (jh S σ) Q := by
  unfold f_X9_takeOf_b20 at h
  refine xo_5 (ls' := [.ref 1, w1, w2, w3, .int s0]) rfl ?_
  refine xo_1 rfl ?_
  refine xo_55 (t := jm_b125_37) rfl (fun hc1 => ?_) (fun hc1 => ?_)
  · replace h := jw_pos hc1 h
    refine xo_1 rfl ?_
    obtain ⟨hz2, h⟩ := jw_chk h
    replace h := jw_some h
    exact xo_70 hz2 h
  · replace h := jw_neg hc1 h
    refine xo_2 rfl ?_
    refine xo_28r ?_
    refine xc_32 (i := 67) (v := (σ.1 67)) hS ly1 rfl ⟨Nat.le_of_ble_eq_true rfl, Nat.le_of_ble_eq_true rfl⟩ rfl ?_
    refine xo_8 ?_
    refine xo_14 ?_
    refine xc_34 (i := 67) hS ly1 rfl ⟨Nat.le_of_ble_eq_true rfl, Nat.le_of_ble_eq_true rfl⟩ ?_
    refine xo_1 rfl ?_
    obtain ⟨hz3, h⟩ := jw_chk h
    replace h := jw_some h
    exact xo_70 hz3 h
theorem t_X9_takeOf_b19 {S : jS} (hS : jCok S) {d : Nat} {Q : Option Value → jx_H → Prop} {w1 : Value} {w2 : Value} {w3 : Value} {w4 : Value} {σ : jT} (h : jw (f_X9_takeOf_b19 σ) (fun q => Q (some (.int q.1)) (jh S q.2))) : jx_Ex (d + 1) jm_l125 jm_b125_19 [.ref 1, w1, w2, w3, w4] [] (jh S σ) Q := by
  unfold f_X9_takeOf_b19 at h
  refine xo_8 ?_
  exact t_X9_takeOf_b20 hS h
theorem t_X9_takeOf {S : jS} (hS : jCok S) {d : Nat} {Q : Option Value → jx_H → Prop} {x1 : Int32} {x2 : Int32} {σ : jT} (h : jw (f_X9_takeOf x1 x2 σ) (fun q => Q (some (.int q.1)) (jh S q.2))) : jx_Sp (d + 1) 125 [.ref 1, .int x1, .int x2] (jh S σ) Q := by
  refine ⟨jm_i125, jm_at125, rfl, rfl, ?_⟩
  show jx_Ex _ jm_l125 jm_b125_0 [.ref 1, .int x1, .int x2, .retAddr 0, .retAddr 0] [] _ _
  unfold f_X9_takeOf at h
  refine xo_2 rfl ?_
  refine xo_49 (st' := []) rfl rfl (xc_ly hS ly1) rfl (Nat.le_of_ble_eq_true rfl) ?_
  refine t_X9_peek hS ?_
  refine jw_mono (jw_bind h) (fun q1 h => ?_)
  show jx_Ex _ _ _ _ [.int q1.1] (jh S q1.2) _
  refine xo_4 (ls' := [.ref 1, .int x1, .int x2, .int q1.1, .retAddr 0]) rfl ?_
  refine xo_0 rfl ?_
  refine xo_0 rfl ?_
  refine xo_63 (t := jm_b125_19) rfl (fun hc2 => ?_) (fun hc2 => ?_)
  · replace h := jw_pos hc2 h
    exact t_X9_takeOf_b19 hS h
  · replace h := jw_neg hc2 h
    refine xo_0 rfl ?_
    refine xo_0 rfl ?_
    refine xo_65 (t := jm_b125_19) rfl (fun hc3 => ?_) (fun hc3 => ?_)
    · replace h := jw_pos hc3 h
      exact t_X9_takeOf_b19 hS h
    · replace h := jw_neg hc3 h
      refine xo_8 ?_
      refine xo_54 (t := jm_b125_20) rfl ?_
      exact t_X9_takeOf_b20 hS h
/-- Grammar.takeRoadLine, at ['x.text'] -/
def f_X1_takeRoadLine_1_b37 (x1 : Int32) (σ : jT) : Option (Int32 × jT) :=
  if x1 = 0 then
    if x1 = 0 ∨ x1 = 1 then
    some (x1, σ)
    else none
  else
    (f_X9_take 33 σ).bind fun q3 =>
    if x1 = 0 ∨ x1 = 1 then
    some (x1, q3.2)
    else none
def f_X1_takeRoadLine_1_b13 : Nat → Int32 → Int32 → jT → Option (Int32 × jT)
  | 0, _, _, _ => none
  | n + 1, x1, x2, σ =>
    if 3 ≤ x2 then
      f_X1_takeRoadLine_1_b37 x1 σ
    else
      (f_X9_takeOf 97 106 σ).bind fun q2 =>
      if q2.1 = 0 then
        f_X1_takeRoadLine_1_b37 x1 q2.2
      else
        f_X1_takeRoadLine_1_b13 n 1 (x2 + 1) q2.2
def f_X1_takeRoadLine_1 (σ : jT) : Option (Int32 × jT) :=
  (f_X9_take 45 σ).bind fun q1 =>
  if ¬ q1.1 = 0 then
    f_X1_takeRoadLine_1_b37 q1.1 q1.2
  else
    f_X1_takeRoadLine_1_b13 1000 q1.1 0 q1.2
theorem t_X1_takeRoadLine_1_b37 {S : jS} (hS : jCok S) {d : Nat} {Q : Option Value → jx_H → Prop} {x1 : Int32} {w2 : Value} {σ : jT} (h : jw (f_X1_takeRoadLine_1_b37 x1 σ) (fun q => Q (some (.int q.1)) (jh S q.2))) : jx_Ex (d + 2) jm_l12 jm_b12_37 [.ref 1, .int x1, w2] [] (jh S σ) Q := by
  unfold f_X1_takeRoadLine_1_b37 at h
  refine xo_0 rfl ?_
  refine xo_55 (t := jm_b12_48) rfl (fun hc1 => ?_) (fun hc1 => ?_)
  · replace h := jw_pos hc1 h
    refine xo_0 rfl ?_
    obtain ⟨hz2, h⟩ := jw_chk h
    replace h := jw_some h
    exact xo_70 hz2 h
  · replace h := jw_neg hc1 h
    refine xo_2 rfl ?_
    refine xo_9 ?_
    refine xo_49 (st' := []) rfl rfl (xc_ly hS ly1) rfl (Nat.le_of_ble_eq_true rfl) ?_
    refine t_X9_take hS ?_
    refine jw_mono (jw_bind h) (fun q3 h => ?_)
    show jx_Ex _ _ _ _ [.int q3.1] (jh S q3.2) _
    refine xo_31 ?_
    refine xo_0 rfl ?_
    obtain ⟨hz4, h⟩ := jw_chk h
    replace h := jw_some h
    exact xo_70 hz4 h
theorem t_X1_takeRoadLine_1_b13 {S : jS} (hS : jCok S) {d : Nat} {Q : Option Value → jx_H → Prop} : ∀ (n : Nat) {x1 : Int32} {x2 : Int32} {σ : jT}, jw (f_X1_takeRoadLine_1_b13 n x1 x2 σ) (fun q => Q (some (.int q.1)) (jh S q.2)) → jx_Ex (d + 2) jm_l12 jm_b12_13 [.ref 1, .int x1, .int x2] [] (jh S σ) Q := by
  intro n
  induction n with
  | zero => intro x1 x2 σ h; exact jw_none h
  | succ n ih =>
    intro x1 x2 σ h
    rw [f_X1_takeRoadLine_1_b13] at h
    refine xo_0 rfl ?_
    refine xo_8 ?_
    refine xo_64 (t := jm_b12_37) rfl (fun hc1 => ?_) (fun hc1 => ?_)
    · replace h := jw_pos hc1 h
      exact t_X1_takeRoadLine_1_b37 hS h
    · replace h := jw_neg hc1 h
      refine xo_2 rfl ?_
      refine xo_9 ?_
      refine xo_9 ?_
      refine xo_49 (st' := []) rfl rfl (xc_ly hS ly1) rfl (Nat.le_of_ble_eq_true rfl) ?_
      refine t_X9_takeOf hS ?_
      refine jw_mono (jw_bind h) (fun q2 h => ?_)
      show jx_Ex _ _ _ _ [.int q2.1] (jh S q2.2) _
      refine xo_55 (t := jm_b12_37) rfl (fun hc3 => ?_) (fun hc3 => ?_)
      · replace h := jw_pos hc3 h
        exact t_X1_takeRoadLine_1_b37 hS h
      · replace h := jw_neg hc3 h
        refine xo_8 ?_
        refine xo_4 (ls' := [.ref 1, .int 1, .int x2]) rfl ?_
        refine xo_13 (ls' := [.ref 1, .int 1, .int (x2 + 1)]) rfl rfl ?_
        refine xo_54 (t := jm_b12_13) rfl ?_
        exact ih h
theorem t_X1_takeRoadLine_1 {S : jS} (hS : jCok S) {d : Nat} {Q : Option Value → jx_H → Prop} {σ : jT} (h : jw (f_X1_takeRoadLine_1 σ) (fun q => Q (some (.int q.1)) (jh S q.2))) : jx_Sp (d + 2) 12 [.ref 1] (jh S σ) Q := by
  refine ⟨jm_i12, jm_at12, rfl, rfl, ?_⟩
  show jx_Ex _ jm_l12 jm_b12_0 [.ref 1, .retAddr 0, .retAddr 0] [] _ _
  unfold f_X1_takeRoadLine_1 at h
  refine xo_2 rfl ?_
  refine xo_9 ?_
  refine xo_49 (st' := []) rfl rfl (xc_ly hS ly1) rfl (Nat.le_of_ble_eq_true rfl) ?_
  refine t_X9_take hS ?_
  refine jw_mono (jw_bind h) (fun q1 h => ?_)
  show jx_Ex _ _ _ _ [.int q1.1] (jh S q1.2) _
  refine xo_4 (ls' := [.ref 1, .int q1.1, .retAddr 0]) rfl ?_
  refine xo_0 rfl ?_
  refine xo_56 (t := jm_b12_37) rfl (fun hc2 => ?_) (fun hc2 => ?_)
  · replace h := jw_pos hc2 h
    exact t_X1_takeRoadLine_1_b37 hS h
  · replace h := jw_neg hc2 h
    refine xo_8 ?_
    refine xo_4 (ls' := [.ref 1, .int q1.1, .int 0]) rfl ?_
    exact t_X1_takeRoadLine_1_b13 hS 1000 h
/-- Text.isOver, at ['x.text'] -/
def f_X9_isOver (σ : jT) : Option (Int32 × jT) :=
  (f_X9_peek σ).bind fun q1 =>
  if ¬ q1.1 = (-1) then
    some (0, q1.2)
  else
    some (1, q1.2)
theorem t_X9_isOver {S : jS} (hS : jCok S) {d : Nat} {Q : Option Value → jx_H → Prop} {σ : jT} (h : jw (f_X9_isOver σ) (fun q => Q (some (.int q.1)) (jh S q.2))) : jx_Sp (d + 1) 121 [.ref 1] (jh S σ) Q := by
  refine ⟨jm_i121, jm_at121, rfl, rfl, ?_⟩
  show jx_Ex _ jm_l121 jm_b121_0 [.ref 1] [] _ _
  unfold f_X9_isOver at h
  refine xo_2 rfl ?_
  refine xo_49 (st' := []) rfl rfl (xc_ly hS ly1) rfl (Nat.le_of_ble_eq_true rfl) ?_
  refine t_X9_peek hS ?_
  refine jw_mono (jw_bind h) (fun q1 h => ?_)
  show jx_Ex _ _ _ _ [.int q1.1] (jh S q1.2) _
  refine xo_8 ?_
  refine xo_62 (t := jm_b121_12) rfl (fun hc2 => ?_) (fun hc2 => ?_)
  · replace h := jw_pos hc2 h
    refine xo_8 ?_
    replace h := jw_some h
    exact xo_70 (by decide) h
  · replace h := jw_neg hc2 h
    refine xo_8 ?_
    refine xo_54 (t := jm_b121_13) rfl ?_
    replace h := jw_some h
    exact xo_70 (by decide) h
/-- Text.isCutShort, at ['x.text'] -/
def f_X9_isCutShort (σ : jT) : Option (Int32 × jT) :=
  if (σ.1 67) < (σ.1 66) then
    some (0, σ)
  else
    if (σ.1 65) ≤ (σ.1 66) then
      some (0, σ)
    else
      some (1, σ)
theorem t_X9_isCutShort {S : jS} (hS : jCok S) {d : Nat} {Q : Option Value → jx_H → Prop} {σ : jT} (h : jw (f_X9_isCutShort σ) (fun q => Q (some (.int q.1)) (jh S q.2))) : jx_Sp (d) 122 [.ref 1] (jh S σ) Q := by
  refine ⟨jm_i122, jm_at122, rfl, rfl, ?_⟩
  show jx_Ex _ jm_l122 jm_b122_0 [.ref 1] [] _ _
  unfold f_X9_isCutShort at h
  refine xo_2 rfl ?_
  refine xc_32 (i := 67) (v := (σ.1 67)) hS ly1 rfl ⟨Nat.le_of_ble_eq_true rfl, Nat.le_of_ble_eq_true rfl⟩ rfl ?_
  refine xo_2 rfl ?_
  refine xc_32 (i := 66) (v := (σ.1 66)) hS ly1 rfl ⟨Nat.le_of_ble_eq_true rfl, Nat.le_of_ble_eq_true rfl⟩ rfl ?_
  refine xo_63 (t := jm_b122_26) rfl (fun hc1 => ?_) (fun hc1 => ?_)
  · replace h := jw_pos hc1 h
    refine xo_8 ?_
    replace h := jw_some h
    exact xo_70 (by decide) h
  · replace h := jw_neg hc1 h
    refine xo_2 rfl ?_
    refine xc_32 (i := 65) (v := (σ.1 65)) hS ly1 rfl ⟨Nat.le_of_ble_eq_true rfl, Nat.le_of_ble_eq_true rfl⟩ rfl ?_
    refine xo_2 rfl ?_
    refine xc_32 (i := 66) (v := (σ.1 66)) hS ly1 rfl ⟨Nat.le_of_ble_eq_true rfl, Nat.le_of_ble_eq_true rfl⟩ rfl ?_
    refine xo_66 (t := jm_b122_26) rfl (fun hc2 => ?_) (fun hc2 => ?_)
    · replace h := jw_pos hc2 h
      refine xo_8 ?_
      replace h := jw_some h
      exact xo_70 (by decide) h
    · replace h := jw_neg hc2 h
      refine xo_8 ?_
      refine xo_54 (t := jm_b122_27) rfl ?_
      replace h := jw_some h
      exact xo_70 (by decide) h
/-- Text.goesOn, at ['x.text'] -/
def f_X9_goesOn_b18 (σ : jT) : Option (Int32 × jT) :=
  some ((σ.1 67), σ)
def f_X9_goesOn (σ : jT) : Option (Int32 × jT) :=
  (f_X9_isOver σ).bind fun q1 =>
  if q1.1 = 0 then
    f_X9_goesOn_b18 q1.2
  else
    (f_X9_isCutShort q1.2).bind fun q3 =>
    if ¬ q3.1 = 0 then
      f_X9_goesOn_b18 q3.2
    else
      some ((-1), q3.2)
theorem t_X9_goesOn_b18 {S : jS} (hS : jCok S) {d : Nat} {Q : Option Value → jx_H → Prop} {σ : jT} (h : jw (f_X9_goesOn_b18 σ) (fun q => Q (some (.int q.1)) (jh S q.2))) : jx_Ex (d + 2) jm_l127 jm_b127_18 [.ref 1] [] (jh S σ) Q := by
  unfold f_X9_goesOn_b18 at h
  refine xo_2 rfl ?_
  refine xc_32 (i := 67) (v := (σ.1 67)) hS ly1 rfl ⟨Nat.le_of_ble_eq_true rfl, Nat.le_of_ble_eq_true rfl⟩ rfl ?_
  replace h := jw_some h
  exact xo_69 h
theorem t_X9_goesOn {S : jS} (hS : jCok S) {d : Nat} {Q : Option Value → jx_H → Prop} {σ : jT} (h : jw (f_X9_goesOn σ) (fun q => Q (some (.int q.1)) (jh S q.2))) : jx_Sp (d + 2) 127 [.ref 1] (jh S σ) Q := by
  refine ⟨jm_i127, jm_at127, rfl, rfl, ?_⟩
  show jx_Ex _ jm_l127 jm_b127_0 [.ref 1] [] _ _
  unfold f_X9_goesOn at h
  refine xo_2 rfl ?_
  refine xo_49 (st' := []) rfl rfl (xc_ly hS ly1) rfl (Nat.le_of_ble_eq_true rfl) ?_
  refine t_X9_isOver hS ?_
  refine jw_mono (jw_bind h) (fun q1 h => ?_)
  show jx_Ex _ _ _ _ [.int q1.1] (jh S q1.2) _
  refine xo_55 (t := jm_b127_18) rfl (fun hc2 => ?_) (fun hc2 => ?_)
  · replace h := jw_pos hc2 h
    exact t_X9_goesOn_b18 hS h
  · replace h := jw_neg hc2 h
    refine xo_2 rfl ?_
    refine xo_49 (st' := []) rfl rfl (xc_ly hS ly1) rfl (Nat.le_of_ble_eq_true rfl) ?_
    refine t_X9_isCutShort hS ?_
    refine jw_mono (jw_bind h) (fun q3 h => ?_)
    show jx_Ex _ _ _ _ [.int q3.1] (jh S q3.2) _
    refine xo_56 (t := jm_b127_18) rfl (fun hc4 => ?_) (fun hc4 => ?_)
    · replace h := jw_pos hc4 h
      exact t_X9_goesOn_b18 hS h
    · replace h := jw_neg hc4 h
      refine xo_8 ?_
      refine xo_54 (t := jm_b127_22) rfl ?_
      replace h := jw_some h
      exact xo_69 h
/-- Grammar.inRoadLines, at ['x.text'] -/
def f_X1_inRoadLines_1_b8 : Nat → Int32 → jT → Option (Int32 × jT)
  | 0, _, _ => none
  | n + 1, x1, σ =>
    if 10 ≤ x1 then
      (f_X9_position σ).bind fun q2 =>
      some (q2.1, q2.2)
    else
      (f_X1_takeRoadLine_1 σ).bind fun q3 =>
      if ¬ q3.1 = 0 then
        (f_X9_take 59 q3.2).bind fun q5 =>
        if ¬ q5.1 = 0 then
          f_X1_inRoadLines_1_b8 n (x1 + 1) q5.2
        else
          (f_X9_goesOn q5.2).bind fun q7 =>
          some (q7.1, q7.2)
      else
        (f_X9_position q3.2).bind fun q8 =>
        some (q8.1, q8.2)
def f_X1_inRoadLines_1 (σ : jT) : Option (Int32 × jT) :=
  (f_X9_open 76 σ).bind fun q1 =>
  f_X1_inRoadLines_1_b8 1000 0 q1.2
theorem t_X1_inRoadLines_1_b8 {S : jS} (hS : jCok S) {d : Nat} {Q : Option Value → jx_H → Prop} : ∀ (n : Nat) {x1 : Int32} {σ : jT}, jw (f_X1_inRoadLines_1_b8 n x1 σ) (fun q => Q (some (.int q.1)) (jh S q.2)) → jx_Ex (d + 3) jm_l11 jm_b11_8 [.ref 1, .int x1] [] (jh S σ) Q := by
  intro n
  induction n with
  | zero => intro x1 σ h; exact jw_none h
  | succ n ih =>
    intro x1 σ h
    rw [f_X1_inRoadLines_1_b8] at h
    refine xo_0 rfl ?_
    refine xo_9 ?_
    refine xo_64 (t := jm_b11_46) rfl (fun hc1 => ?_) (fun hc1 => ?_)
    · replace h := jw_pos hc1 h
      refine xo_2 rfl ?_
      refine xo_49 (st' := []) rfl rfl (xc_ly hS ly1) rfl (Nat.le_of_ble_eq_true rfl) ?_
      refine t_X9_position hS ?_
      refine jw_mono (jw_bind h) (fun q2 h => ?_)
      show jx_Ex _ _ _ _ [.int q2.1] (jh S q2.2) _
      replace h := jw_some h
      exact xo_69 h
    · replace h := jw_neg hc1 h
      refine xo_2 rfl ?_
      refine xo_50 (st' := []) rfl rfl rfl (Nat.le_of_ble_eq_true rfl) ?_
      refine t_X1_takeRoadLine_1 hS ?_
      refine jw_mono (jw_bind h) (fun q3 h => ?_)
      show jx_Ex _ _ _ _ [.int q3.1] (jh S q3.2) _
      refine xo_56 (t := jm_b11_26) rfl (fun hc4 => ?_) (fun hc4 => ?_)
      · replace h := jw_pos hc4 h
        refine xo_2 rfl ?_
        refine xo_9 ?_
        refine xo_49 (st' := []) rfl rfl (xc_ly hS ly1) rfl (Nat.le_of_ble_eq_true rfl) ?_
        refine t_X9_take hS ?_
        refine jw_mono (jw_bind h) (fun q5 h => ?_)
        show jx_Ex _ _ _ _ [.int q5.1] (jh S q5.2) _
        refine xo_56 (t := jm_b11_40) rfl (fun hc6 => ?_) (fun hc6 => ?_)
        · replace h := jw_pos hc6 h
          refine xo_13 (ls' := [.ref 1, .int (x1 + 1)]) rfl rfl ?_
          refine xo_54 (t := jm_b11_8) rfl ?_
          exact ih h
        · replace h := jw_neg hc6 h
          refine xo_2 rfl ?_
          refine xo_49 (st' := []) rfl rfl (xc_ly hS ly1) rfl (Nat.le_of_ble_eq_true rfl) ?_
          refine t_X9_goesOn hS ?_
          refine jw_mono (jw_bind h) (fun q7 h => ?_)
          show jx_Ex _ _ _ _ [.int q7.1] (jh S q7.2) _
          replace h := jw_some h
          exact xo_69 h
      · replace h := jw_neg hc4 h
        refine xo_2 rfl ?_
        refine xo_49 (st' := []) rfl rfl (xc_ly hS ly1) rfl (Nat.le_of_ble_eq_true rfl) ?_
        refine t_X9_position hS ?_
        refine jw_mono (jw_bind h) (fun q8 h => ?_)
        show jx_Ex _ _ _ _ [.int q8.1] (jh S q8.2) _
        replace h := jw_some h
        exact xo_69 h
theorem t_X1_inRoadLines_1 {S : jS} (hS : jCok S) {d : Nat} {Q : Option Value → jx_H → Prop} {σ : jT} (h : jw (f_X1_inRoadLines_1 σ) (fun q => Q (some (.int q.1)) (jh S q.2))) : jx_Sp (d + 3) 11 [.ref 1] (jh S σ) Q := by
  refine ⟨jm_i11, jm_at11, rfl, rfl, ?_⟩
  show jx_Ex _ jm_l11 jm_b11_0 [.ref 1, .retAddr 0] [] _ _
  unfold f_X1_inRoadLines_1 at h
  refine xo_2 rfl ?_
  refine xo_9 ?_
  refine xo_49 (st' := []) rfl rfl (xc_ly hS ly1) rfl (Nat.le_of_ble_eq_true rfl) ?_
  refine t_X9_open hS ?_
  refine jw_mono (jw_bind h) (fun q1 h => ?_)
  show jx_Ex _ _ _ _ [] (jh S q1.2) _
  refine xo_8 ?_
  refine xo_4 (ls' := [.ref 1, .int 0]) rfl ?_
  exact t_X1_inRoadLines_1_b8 hS 1000 h
/-- Text.length, at ['x.text'] -/
def f_X9_length (σ : jT) : Option (Int32 × jT) :=
  some ((σ.1 65), σ)
theorem t_X9_length {S : jS} (hS : jCok S) {d : Nat} {Q : Option Value → jx_H → Prop} {σ : jT} (h : jw (f_X9_length σ) (fun q => Q (some (.int q.1)) (jh S q.2))) : jx_Sp (d) 113 [.ref 1] (jh S σ) Q := by
  refine ⟨jm_i113, jm_at113, rfl, rfl, ?_⟩
  show jx_Ex _ jm_l113 jm_b113_0 [.ref 1] [] _ _
  unfold f_X9_length at h
  refine xo_2 rfl ?_
  refine xc_32 (i := 65) (v := (σ.1 65)) hS ly1 rfl ⟨Nat.le_of_ble_eq_true rfl, Nat.le_of_ble_eq_true rfl⟩ rfl ?_
  replace h := jw_some h
  exact xo_69 h
/-- Text.at, at ['x.text', 'int'] -/
def f_X9_at (x1 : Int32) (σ : jT) : Option (Int32 × jT) :=
  if x1 < 0 then
    some ((-1), σ)
  else
    if (σ.1 65) ≤ x1 then
      some ((-1), σ)
    else
      if jx_in x1 80 then
      some ((σ.2 2 x1.toNatClampNeg), σ)
      else none
theorem t_X9_at {S : jS} (hS : jCok S) {d : Nat} {Q : Option Value → jx_H → Prop} {x1 : Int32} {σ : jT} (h : jw (f_X9_at x1 σ) (fun q => Q (some (.int q.1)) (jh S q.2))) : jx_Sp (d) 114 [.ref 1, .int x1] (jh S σ) Q := by
  refine ⟨jm_i114, jm_at114, rfl, rfl, ?_⟩
  show jx_Ex _ jm_l114 jm_b114_0 [.ref 1, .int x1] [] _ _
  unfold f_X9_at at h
  refine xo_0 rfl ?_
  refine xo_57 (t := jm_b114_21) rfl (fun hc1 => ?_) (fun hc1 => ?_)
  · replace h := jw_pos hc1 h
    refine xo_8 ?_
    replace h := jw_some h
    exact xo_69 h
  · replace h := jw_neg hc1 h
    refine xo_0 rfl ?_
    refine xo_2 rfl ?_
    refine xc_32 (i := 65) (v := (σ.1 65)) hS ly1 rfl ⟨Nat.le_of_ble_eq_true rfl, Nat.le_of_ble_eq_true rfl⟩ rfl ?_
    refine xo_64 (t := jm_b114_21) rfl (fun hc2 => ?_) (fun hc2 => ?_)
    · replace h := jw_pos hc2 h
      refine xo_8 ?_
      replace h := jw_some h
      exact xo_69 h
    · replace h := jw_neg hc2 h
      refine xo_2 rfl ?_
      refine xc_33 (i := 64) (q := 2) hS ly1 rfl (xc_P hS (by decide)) ?_
      refine xo_0 rfl ?_
      obtain ⟨hi3, h⟩ := jw_chk h
      refine xc_38 (j := x1.toNatClampNeg) (v := (σ.2 2 x1.toNatClampNeg)) hS ly2 ⟨Nat.le_of_ble_eq_true rfl, Nat.le_of_ble_eq_true rfl⟩ hi3 rfl rfl ?_
      refine xo_54 (t := jm_b114_22) rfl ?_
      replace h := jw_some h
      exact xo_69 h
/-- Grammar.inRoads, at ['x.text'] -/
def f_X1_inRoads_1_b50 : Nat → Int32 → Int32 → jT → Option (Int32 × jT)
  | 0, _, _, _ => none
  | n + 1, x2, x3, σ =>
    (f_X9_length σ).bind fun q1 =>
    if q1.1 ≤ x3 then
      some ((-1), q1.2)
    else
      (f_X9_at x3 q1.2).bind fun q3 =>
      if q3.1 < (97 + x2) then
        f_X1_inRoads_1_b50 n x2 (x3 + 1) q3.2
      else
        some (x3, q3.2)
def f_X1_inRoads_1_b40 (k16 : Int32 → Int32 → jT → Option (Int32 × jT)) (x3 : Int32) (s0 : Int32) (s1 : Int32) (σ : jT) : Option (Int32 × jT) :=
  k16 (s1 + s0) (x3 + 1) σ
def f_X1_inRoads_1_b16 : Nat → Int32 → Int32 → jT → Option (Int32 × jT)
  | 0, _, _, _ => none
  | n + 1, x2, x3, σ =>
    (f_X9_length σ).bind fun q1 =>
    if q1.1 ≤ x3 then
      f_X1_inRoads_1_b50 1000 x2 0 q1.2
    else
      (f_X9_at x3 q1.2).bind fun q3 =>
      if ¬ q3.1 = 59 then
        f_X1_inRoads_1_b40 (f_X1_inRoads_1_b16 n) x3 0 x2 q3.2
      else
        f_X1_inRoads_1_b40 (f_X1_inRoads_1_b16 n) x3 1 x2 q3.2
def f_X1_inRoads_1 (σ : jT) : Option (Int32 × jT) :=
  (f_X1_inRoadLines_1 σ).bind fun q1 =>
  if q1.1 = (-1) then
    f_X1_inRoads_1_b16 1000 1 0 q1.2
  else
    some (q1.1, q1.2)
theorem t_X1_inRoads_1_b50 {S : jS} (hS : jCok S) {d : Nat} {Q : Option Value → jx_H → Prop} : ∀ (n : Nat) {x2 : Int32} {x3 : Int32} {w1 : Value} {σ : jT}, jw (f_X1_inRoads_1_b50 n x2 x3 σ) (fun q => Q (some (.int q.1)) (jh S q.2)) → jx_Ex (d + 4) jm_l10 jm_b10_50 [.ref 1, w1, .int x2, .int x3] [] (jh S σ) Q := by
  intro n
  induction n with
  | zero => intro x2 x3 w1 σ h; exact jw_none h
  | succ n ih =>
    intro x2 x3 w1 σ h
    rw [f_X1_inRoads_1_b50] at h
    refine xo_0 rfl ?_
    refine xo_2 rfl ?_
    refine xo_49 (st' := [.int x3]) rfl rfl (xc_ly hS ly1) rfl (Nat.le_of_ble_eq_true rfl) ?_
    refine t_X9_length hS ?_
    refine jw_mono (jw_bind h) (fun q1 h => ?_)
    show jx_Ex _ _ _ _ [.int q1.1, .int x3] (jh S q1.2) _
    refine xo_64 (t := jm_b10_78) rfl (fun hc2 => ?_) (fun hc2 => ?_)
    · replace h := jw_pos hc2 h
      refine xo_8 ?_
      replace h := jw_some h
      exact xo_69 h
    · replace h := jw_neg hc2 h
      refine xo_2 rfl ?_
      refine xo_0 rfl ?_
      refine xo_49 (st' := []) rfl rfl (xc_ly hS ly1) rfl (Nat.le_of_ble_eq_true rfl) ?_
      refine t_X9_at hS ?_
      refine jw_mono (jw_bind h) (fun q3 h => ?_)
      show jx_Ex _ _ _ _ [.int q3.1] (jh S q3.2) _
      refine xo_9 ?_
      refine xo_0 rfl ?_
      refine xo_14 ?_
      refine xo_63 (t := jm_b10_72) rfl (fun hc4 => ?_) (fun hc4 => ?_)
      · replace h := jw_pos hc4 h
        refine xo_13 (ls' := [.ref 1, w1, .int x2, .int (x3 + 1)]) rfl rfl ?_
        refine xo_54 (t := jm_b10_50) rfl ?_
        exact ih h
      · replace h := jw_neg hc4 h
        refine xo_0 rfl ?_
        replace h := jw_some h
        exact xo_69 h
theorem t_X1_inRoads_1_b40 {S : jS} (hS : jCok S) {d : Nat} {Q : Option Value → jx_H → Prop} {k16 : Int32 → Int32 → jT → Option (Int32 × jT)} (hk16 : ∀ {x2 : Int32} {x3 : Int32} {w1 : Value} {σ : jT}, jw (k16 x2 x3 σ) (fun q => Q (some (.int q.1)) (jh S q.2)) → jx_Ex (d + 4) jm_l10 jm_b10_16 [.ref 1, w1, .int x2, .int x3] [] (jh S σ) Q) {x3 : Int32} {s0 : Int32} {s1 : Int32} {w1 : Value} {w2 : Value} {σ : jT} (h : jw (f_X1_inRoads_1_b40 k16 x3 s0 s1 σ) (fun q => Q (some (.int q.1)) (jh S q.2))) : jx_Ex (d + 4) jm_l10 jm_b10_40 [.ref 1, w1, w2, .int x3] [.int s0, .int s1] (jh S σ) Q := by
  unfold f_X1_inRoads_1_b40 at h
  refine xo_14 ?_
  refine xo_4 (ls' := [.ref 1, w1, .int (s1 + s0), .int x3]) rfl ?_
  refine xo_13 (ls' := [.ref 1, w1, .int (s1 + s0), .int (x3 + 1)]) rfl rfl ?_
  refine xo_54 (t := jm_b10_16) rfl ?_
  exact hk16 h
theorem t_X1_inRoads_1_b16 {S : jS} (hS : jCok S) {d : Nat} {Q : Option Value → jx_H → Prop} : ∀ (n : Nat) {x2 : Int32} {x3 : Int32} {w1 : Value} {σ : jT}, jw (f_X1_inRoads_1_b16 n x2 x3 σ) (fun q => Q (some (.int q.1)) (jh S q.2)) → jx_Ex (d + 4) jm_l10 jm_b10_16 [.ref 1, w1, .int x2, .int x3] [] (jh S σ) Q := by
  intro n
  induction n with
  | zero => intro x2 x3 w1 σ h; exact jw_none h
  | succ n ih =>
    intro x2 x3 w1 σ h
    rw [f_X1_inRoads_1_b16] at h
    refine xo_0 rfl ?_
    refine xo_2 rfl ?_
    refine xo_49 (st' := [.int x3]) rfl rfl (xc_ly hS ly1) rfl (Nat.le_of_ble_eq_true rfl) ?_
    refine t_X9_length hS ?_
    refine jw_mono (jw_bind h) (fun q1 h => ?_)
    show jx_Ex _ _ _ _ [.int q1.1, .int x3] (jh S q1.2) _
    refine xo_64 (t := jm_b10_48) rfl (fun hc2 => ?_) (fun hc2 => ?_)
    · replace h := jw_pos hc2 h
      refine xo_8 ?_
      refine xo_4 (ls' := [.ref 1, w1, .int x2, .int 0]) rfl ?_
      exact t_X1_inRoads_1_b50 hS 1000 h
    · replace h := jw_neg hc2 h
      refine xo_0 rfl ?_
      refine xo_2 rfl ?_
      refine xo_0 rfl ?_
      refine xo_49 (st' := [.int x2]) rfl rfl (xc_ly hS ly1) rfl (Nat.le_of_ble_eq_true rfl) ?_
      refine t_X9_at hS ?_
      refine jw_mono (jw_bind h) (fun q3 h => ?_)
      show jx_Ex _ _ _ _ [.int q3.1, .int x2] (jh S q3.2) _
      refine xo_9 ?_
      refine xo_62 (t := jm_b10_39) rfl (fun hc4 => ?_) (fun hc4 => ?_)
      · replace h := jw_pos hc4 h
        refine xo_8 ?_
        exact t_X1_inRoads_1_b40 hS ih h
      · replace h := jw_neg hc4 h
        refine xo_8 ?_
        refine xo_54 (t := jm_b10_40) rfl ?_
        exact t_X1_inRoads_1_b40 hS ih h
theorem t_X1_inRoads_1 {S : jS} (hS : jCok S) {d : Nat} {Q : Option Value → jx_H → Prop} {σ : jT} (h : jw (f_X1_inRoads_1 σ) (fun q => Q (some (.int q.1)) (jh S q.2))) : jx_Sp (d + 4) 10 [.ref 1] (jh S σ) Q := by
  refine ⟨jm_i10, jm_at10, rfl, rfl, ?_⟩
  show jx_Ex _ jm_l10 jm_b10_0 [.ref 1, .retAddr 0, .retAddr 0, .retAddr 0] [] _ _
  unfold f_X1_inRoads_1 at h
  refine xo_2 rfl ?_
  refine xo_50 (st' := []) rfl rfl rfl (Nat.le_of_ble_eq_true rfl) ?_
  refine t_X1_inRoadLines_1 hS ?_
  refine jw_mono (jw_bind h) (fun q1 h => ?_)
  show jx_Ex _ _ _ _ [.int q1.1] (jh S q1.2) _
  refine xo_4 (ls' := [.ref 1, .int q1.1, .retAddr 0, .retAddr 0]) rfl ?_
  refine xo_0 rfl ?_
  refine xo_8 ?_
  refine xo_61 (t := jm_b10_12) rfl (fun hc2 => ?_) (fun hc2 => ?_)
  · replace h := jw_pos hc2 h
    refine xo_8 ?_
    refine xo_4 (ls' := [.ref 1, .int q1.1, .int 1, .retAddr 0]) rfl ?_
    refine xo_8 ?_
    refine xo_4 (ls' := [.ref 1, .int q1.1, .int 1, .int 0]) rfl ?_
    exact t_X1_inRoads_1_b16 hS 1000 h
  · replace h := jw_neg hc2 h
    refine xo_0 rfl ?_
    replace h := jw_some h
    exact xo_69 h
/-- Text.clear, at ['x.text'] -/
def f_X9_clear (σ : jT) : Option (Int32 × jT) :=
  some (0, (gs σ 65 0))
theorem t_X9_clear {S : jS} (hS : jCok S) {d : Nat} {Q : Option Value → jx_H → Prop} {σ : jT} (h : jw (f_X9_clear σ) (fun q => Q none (jh S q.2))) : jx_Sp (d) 117 [.ref 1] (jh S σ) Q := by
  refine ⟨jm_i117, jm_at117, rfl, rfl, ?_⟩
  show jx_Ex _ jm_l117 jm_b117_0 [.ref 1] [] _ _
  unfold f_X9_clear at h
  refine xo_2 rfl ?_
  refine xo_8 ?_
  refine xc_34 (i := 65) hS ly1 rfl ⟨Nat.le_of_ble_eq_true rfl, Nat.le_of_ble_eq_true rfl⟩ ?_
  replace h := jw_some h
  exact xo_71 h
/-- Land.places, at ['x.land'] -/
def f_X3_places (σ : jT) : Option (Int32 × jT) :=
  some ((σ.1 195), σ)
theorem t_X3_places {S : jS} (hS : jCok S) {d : Nat} {Q : Option Value → jx_H → Prop} {σ : jT} (h : jw (f_X3_places σ) (fun q => Q (some (.int q.1)) (jh S q.2))) : jx_Sp (d) 27 [.ref 3] (jh S σ) Q := by
  refine ⟨jm_i27, jm_at27, rfl, rfl, ?_⟩
  show jx_Ex _ jm_l27 jm_b27_0 [.ref 3] [] _ _
  unfold f_X3_places at h
  refine xo_2 rfl ?_
  refine xc_32 (i := 195) (v := (σ.1 195)) hS ly3 rfl ⟨Nat.le_of_ble_eq_true rfl, Nat.le_of_ble_eq_true rfl⟩ rfl ?_
  replace h := jw_some h
  exact xo_69 h
/-- Land.addPlace, at ['x.land'] -/
def f_X3_addPlace (σ : jT) : Option (Int32 × jT) :=
  if 10 ≤ (σ.1 195) then
    some (0, σ)
  else
    if jx_in (σ.1 195) 10 then
    some (0, (gs (gA σ 4 (σ.1 195).toNatClampNeg 0) 195 ((σ.1 195) + 1)))
    else none
theorem t_X3_addPlace {S : jS} (hS : jCok S) {d : Nat} {Q : Option Value → jx_H → Prop} {σ : jT} (h : jw (f_X3_addPlace σ) (fun q => Q none (jh S q.2))) : jx_Sp (d) 41 [.ref 3] (jh S σ) Q := by
  refine ⟨jm_i41, jm_at41, rfl, rfl, ?_⟩
  show jx_Ex _ jm_l41 jm_b41_0 [.ref 3] [] _ _
  unfold f_X3_addPlace at h
  refine xo_2 rfl ?_
  refine xc_32 (i := 195) (v := (σ.1 195)) hS ly3 rfl ⟨Nat.le_of_ble_eq_true rfl, Nat.le_of_ble_eq_true rfl⟩ rfl ?_
  refine xo_9 ?_
  refine xo_64 (t := jm_b41_29) rfl (fun hc1 => ?_) (fun hc1 => ?_)
  · replace h := jw_pos hc1 h
    replace h := jw_some h
    exact xo_71 h
  · replace h := jw_neg hc1 h
    refine xo_2 rfl ?_
    refine xc_33 (i := 192) (q := 4) hS ly3 rfl (xc_P hS (by decide)) ?_
    refine xo_2 rfl ?_
    refine xc_32 (i := 195) (v := (σ.1 195)) hS ly3 rfl ⟨Nat.le_of_ble_eq_true rfl, Nat.le_of_ble_eq_true rfl⟩ rfl ?_
    refine xo_8 ?_
    obtain ⟨hi2, h⟩ := jw_chk h
    refine xc_41 (j := (σ.1 195).toNatClampNeg) hS ly4 ⟨Nat.le_of_ble_eq_true rfl, Nat.le_of_ble_eq_true rfl⟩ hi2 rfl ?_
    refine xo_2 rfl ?_
    refine xo_28r ?_
    refine xc_32 (i := 195) (v := (σ.1 195)) hS ly3 rfl ⟨Nat.le_of_ble_eq_true rfl, Nat.le_of_ble_eq_true rfl⟩ rfl ?_
    refine xo_8 ?_
    refine xo_14 ?_
    refine xc_34 (i := 195) hS ly3 rfl ⟨Nat.le_of_ble_eq_true rfl, Nat.le_of_ble_eq_true rfl⟩ ?_
    replace h := jw_some h
    exact xo_71 h
/-- Land.addWay, at ['x.land', 'int'] -/
def f_X3_addWay (x1 : Int32) (σ : jT) : Option (Int32 × jT) :=
  if ((σ.1 195) - 1) < 0 then
    some (0, σ)
  else
    if jx_in ((σ.1 195) - 1) 10 then
    if 3 ≤ (σ.2 4 ((σ.1 195) - 1).toNatClampNeg) then
      some (0, σ)
    else
      if jx_in ((((σ.1 195) - 1) * 3) + (σ.2 4 ((σ.1 195) - 1).toNatClampNeg)) 30 then
      some (0, (gA (gA σ 5 ((((σ.1 195) - 1) * 3) + (σ.2 4 ((σ.1 195) - 1).toNatClampNeg)).toNatClampNeg x1) 4 ((σ.1 195) - 1).toNatClampNeg ((σ.2 4 ((σ.1 195) - 1).toNatClampNeg) + 1)))
      else none
    else none
theorem t_X3_addWay {S : jS} (hS : jCok S) {d : Nat} {Q : Option Value → jx_H → Prop} {x1 : Int32} {σ : jT} (h : jw (f_X3_addWay x1 σ) (fun q => Q none (jh S q.2))) : jx_Sp (d) 42 [.ref 3, .int x1] (jh S σ) Q := by
  refine ⟨jm_i42, jm_at42, rfl, rfl, ?_⟩
  show jx_Ex _ jm_l42 jm_b42_0 [.ref 3, .int x1, .retAddr 0] [] _ _
  unfold f_X3_addWay at h
  refine xo_2 rfl ?_
  refine xc_32 (i := 195) (v := (σ.1 195)) hS ly3 rfl ⟨Nat.le_of_ble_eq_true rfl, Nat.le_of_ble_eq_true rfl⟩ rfl ?_
  refine xo_8 ?_
  refine xo_15 ?_
  refine xo_4 (ls' := [.ref 3, .int x1, .int ((σ.1 195) - 1)]) rfl ?_
  refine xo_0 rfl ?_
  refine xo_57 (t := jm_b42_47) rfl (fun hc1 => ?_) (fun hc1 => ?_)
  · replace h := jw_pos hc1 h
    replace h := jw_some h
    exact xo_71 h
  · replace h := jw_neg hc1 h
    refine xo_2 rfl ?_
    refine xc_33 (i := 192) (q := 4) hS ly3 rfl (xc_P hS (by decide)) ?_
    refine xo_0 rfl ?_
    obtain ⟨hi2, h⟩ := jw_chk h
    refine xc_38 (j := ((σ.1 195) - 1).toNatClampNeg) (v := (σ.2 4 ((σ.1 195) - 1).toNatClampNeg)) hS ly4 ⟨Nat.le_of_ble_eq_true rfl, Nat.le_of_ble_eq_true rfl⟩ hi2 rfl rfl ?_
    refine xo_8 ?_
    refine xo_64 (t := jm_b42_47) rfl (fun hc3 => ?_) (fun hc3 => ?_)
    · replace h := jw_pos hc3 h
      replace h := jw_some h
      exact xo_71 h
    · replace h := jw_neg hc3 h
      refine xo_2 rfl ?_
      refine xc_33 (i := 193) (q := 5) hS ly3 rfl (xc_P hS (by decide)) ?_
      refine xo_0 rfl ?_
      refine xo_8 ?_
      refine xo_16 ?_
      refine xo_2 rfl ?_
      refine xc_33 (i := 192) (q := 4) hS ly3 rfl (xc_P hS (by decide)) ?_
      refine xo_0 rfl ?_
      refine xc_38 (j := ((σ.1 195) - 1).toNatClampNeg) (v := (σ.2 4 ((σ.1 195) - 1).toNatClampNeg)) hS ly4 ⟨Nat.le_of_ble_eq_true rfl, Nat.le_of_ble_eq_true rfl⟩ hi2 rfl rfl ?_
      refine xo_14 ?_
      refine xo_0 rfl ?_
      obtain ⟨hi4, h⟩ := jw_chk h
      refine xc_41 (j := ((((σ.1 195) - 1) * 3) + (σ.2 4 ((σ.1 195) - 1).toNatClampNeg)).toNatClampNeg) hS ly5 ⟨Nat.le_of_ble_eq_true rfl, Nat.le_of_ble_eq_true rfl⟩ hi4 rfl ?_
      refine xo_2 rfl ?_
      refine xc_33 (i := 192) (q := 4) hS ly3 rfl (xc_P hS (by decide)) ?_
      refine xo_0 rfl ?_
      refine xo_29 ?_
      refine xc_38 (j := ((σ.1 195) - 1).toNatClampNeg) (v := (σ.2 4 ((σ.1 195) - 1).toNatClampNeg)) hS ly4 ⟨Nat.le_of_ble_eq_true rfl, Nat.le_of_ble_eq_true rfl⟩ hi2 rfl rfl ?_
      refine xo_8 ?_
      refine xo_14 ?_
      refine xc_41 (j := ((σ.1 195) - 1).toNatClampNeg) hS ly4 ⟨Nat.le_of_ble_eq_true rfl, Nat.le_of_ble_eq_true rfl⟩ hi2 rfl ?_
      replace h := jw_some h
      exact xo_71 h
/-- Land.lay, at ['x.land', 'x.text'] -/
def f_X3_lay_1_b88 (k21 : Int32 → jT → Option (Int32 × jT)) (x2 : Int32) (σ : jT) : Option (Int32 × jT) :=
  k21 (x2 + 1) σ
def f_X3_lay_1_b21 : Nat → Int32 → jT → Option (Int32 × jT)
  | 0, _, _ => none
  | n + 1, x2, σ =>
    (f_X9_length σ).bind fun q1 =>
    if q1.1 ≤ x2 then
      some (0, q1.2)
    else
      (f_X9_at x2 q1.2).bind fun q3 =>
      if ¬ q3.1 = 59 then
        if ¬ q3.1 = 33 then
          if q3.1 = 45 then
            f_X3_lay_1_b88 (f_X3_lay_1_b21 n) x2 q3.2
          else
            (f_X3_addWay (q3.1 - 97) q3.2).bind fun q7 =>
            f_X3_lay_1_b88 (f_X3_lay_1_b21 n) x2 q7.2
        else
          f_X3_lay_1_b88 (f_X3_lay_1_b21 n) x2 (gs q3.2 196 ((q3.2.1 196) ||| (1 <<< (((q3.2.1 195) - 1) &&& 31))))
      else
        (f_X3_addPlace q3.2).bind fun q8 =>
        f_X3_lay_1_b88 (f_X3_lay_1_b21 n) x2 q8.2
def f_X3_lay_1 (σ : jT) : Option (Int32 × jT) :=
  (f_X3_addPlace (gs (gs (gs σ 195 0) 196 0) 197 0)).bind fun q1 =>
  f_X3_lay_1_b21 1000 0 q1.2
theorem t_X3_lay_1_b88 {S : jS} (hS : jCok S) {d : Nat} {Q : Option Value → jx_H → Prop} {k21 : Int32 → jT → Option (Int32 × jT)} (hk21 : ∀ {x2 : Int32} {w3 : Value} {σ : jT}, jw (k21 x2 σ) (fun q => Q none (jh S q.2)) → jx_Ex (d + 1) jm_l40 jm_b40_21 [.ref 3, .ref 1, .int x2, w3] [] (jh S σ) Q) {x2 : Int32} {w3 : Value} {σ : jT} (h : jw (f_X3_lay_1_b88 k21 x2 σ) (fun q => Q none (jh S q.2))) : jx_Ex (d + 1) jm_l40 jm_b40_88 [.ref 3, .ref 1, .int x2, w3] [] (jh S σ) Q := by
  unfold f_X3_lay_1_b88 at h
  refine xo_13 (ls' := [.ref 3, .ref 1, .int (x2 + 1), w3]) rfl rfl ?_
  refine xo_54 (t := jm_b40_21) rfl ?_
  exact hk21 h
theorem t_X3_lay_1_b21 {S : jS} (hS : jCok S) {d : Nat} {Q : Option Value → jx_H → Prop} : ∀ (n : Nat) {x2 : Int32} {w3 : Value} {σ : jT}, jw (f_X3_lay_1_b21 n x2 σ) (fun q => Q none (jh S q.2)) → jx_Ex (d + 1) jm_l40 jm_b40_21 [.ref 3, .ref 1, .int x2, w3] [] (jh S σ) Q := by
  intro n
  induction n with
  | zero => intro x2 w3 σ h; exact jw_none h
  | succ n ih =>
    intro x2 w3 σ h
    rw [f_X3_lay_1_b21] at h
    refine xo_0 rfl ?_
    refine xo_2 rfl ?_
    refine xo_49 (st' := [.int x2]) rfl rfl (xc_ly hS ly1) rfl (Nat.le_of_ble_eq_true rfl) ?_
    refine t_X9_length hS ?_
    refine jw_mono (jw_bind h) (fun q1 h => ?_)
    show jx_Ex _ _ _ _ [.int q1.1, .int x2] (jh S q1.2) _
    refine xo_64 (t := jm_b40_94) rfl (fun hc2 => ?_) (fun hc2 => ?_)
    · replace h := jw_pos hc2 h
      replace h := jw_some h
      exact xo_71 h
    · replace h := jw_neg hc2 h
      refine xo_2 rfl ?_
      refine xo_0 rfl ?_
      refine xo_49 (st' := []) rfl rfl (xc_ly hS ly1) rfl (Nat.le_of_ble_eq_true rfl) ?_
      refine t_X9_at hS ?_
      refine jw_mono (jw_bind h) (fun q3 h => ?_)
      show jx_Ex _ _ _ _ [.int q3.1] (jh S q3.2) _
      refine xo_4 (ls' := [.ref 3, .ref 1, .int x2, .int q3.1]) rfl ?_
      refine xo_0 rfl ?_
      refine xo_9 ?_
      refine xo_62 (t := jm_b40_48) rfl (fun hc4 => ?_) (fun hc4 => ?_)
      · replace h := jw_pos hc4 h
        refine xo_0 rfl ?_
        refine xo_9 ?_
        refine xo_62 (t := jm_b40_74) rfl (fun hc5 => ?_) (fun hc5 => ?_)
        · replace h := jw_pos hc5 h
          refine xo_0 rfl ?_
          refine xo_9 ?_
          refine xo_61 (t := jm_b40_88) rfl (fun hc6 => ?_) (fun hc6 => ?_)
          · replace h := jw_pos hc6 h
            exact t_X3_lay_1_b88 hS ih h
          · replace h := jw_neg hc6 h
            refine xo_2 rfl ?_
            refine xo_0 rfl ?_
            refine xo_9 ?_
            refine xo_15 ?_
            refine xo_49 (st' := []) rfl rfl (xc_ly hS ly3) rfl (Nat.le_of_ble_eq_true rfl) ?_
            refine t_X3_addWay hS ?_
            refine jw_mono (jw_bind h) (fun q7 h => ?_)
            show jx_Ex _ _ _ _ [] (jh S q7.2) _
            exact t_X3_lay_1_b88 hS ih h
        · replace h := jw_neg hc5 h
          refine xo_2 rfl ?_
          refine xo_2 rfl ?_
          refine xc_32 (i := 196) (v := (q3.2.1 196)) hS ly3 rfl ⟨Nat.le_of_ble_eq_true rfl, Nat.le_of_ble_eq_true rfl⟩ rfl ?_
          refine xo_8 ?_
          refine xo_2 rfl ?_
          refine xc_32 (i := 195) (v := (q3.2.1 195)) hS ly3 rfl ⟨Nat.le_of_ble_eq_true rfl, Nat.le_of_ble_eq_true rfl⟩ rfl ?_
          refine xo_8 ?_
          refine xo_15 ?_
          refine xo_23 ?_
          refine xo_21 ?_
          refine xc_34 (i := 196) hS ly3 rfl ⟨Nat.le_of_ble_eq_true rfl, Nat.le_of_ble_eq_true rfl⟩ ?_
          refine xo_54 (t := jm_b40_88) rfl ?_
          exact t_X3_lay_1_b88 hS ih h
      · replace h := jw_neg hc4 h
        refine xo_2 rfl ?_
        refine xo_49 (st' := []) rfl rfl (xc_ly hS ly3) rfl (Nat.le_of_ble_eq_true rfl) ?_
        refine t_X3_addPlace hS ?_
        refine jw_mono (jw_bind h) (fun q8 h => ?_)
        show jx_Ex _ _ _ _ [] (jh S q8.2) _
        refine xo_54 (t := jm_b40_88) rfl ?_
        exact t_X3_lay_1_b88 hS ih h
theorem t_X3_lay_1 {S : jS} (hS : jCok S) {d : Nat} {Q : Option Value → jx_H → Prop} {σ : jT} (h : jw (f_X3_lay_1 σ) (fun q => Q none (jh S q.2))) : jx_Sp (d + 1) 40 [.ref 3, .ref 1] (jh S σ) Q := by
  refine ⟨jm_i40, jm_at40, rfl, rfl, ?_⟩
  show jx_Ex _ jm_l40 jm_b40_0 [.ref 3, .ref 1, .retAddr 0, .retAddr 0] [] _ _
  unfold f_X3_lay_1 at h
  refine xo_2 rfl ?_
  refine xo_8 ?_
  refine xc_34 (i := 195) hS ly3 rfl ⟨Nat.le_of_ble_eq_true rfl, Nat.le_of_ble_eq_true rfl⟩ ?_
  refine xo_2 rfl ?_
  refine xo_8 ?_
  refine xc_34 (i := 196) hS ly3 rfl ⟨Nat.le_of_ble_eq_true rfl, Nat.le_of_ble_eq_true rfl⟩ ?_
  refine xo_2 rfl ?_
  refine xo_8 ?_
  refine xc_34 (i := 197) hS ly3 rfl ⟨Nat.le_of_ble_eq_true rfl, Nat.le_of_ble_eq_true rfl⟩ ?_
  refine xo_2 rfl ?_
  refine xo_49 (st' := []) rfl rfl (xc_ly hS ly3) rfl (Nat.le_of_ble_eq_true rfl) ?_
  refine t_X3_addPlace hS ?_
  refine jw_mono (jw_bind h) (fun q1 h => ?_)
  show jx_Ex _ _ _ _ [] (jh S q1.2) _
  refine xo_8 ?_
  refine xo_4 (ls' := [.ref 3, .ref 1, .int 0, .retAddr 0]) rfl ?_
  exact t_X3_lay_1_b21 hS 1000 h
/-- Standing.seat, at ['x.now', 'int', 'int'] -/
def f_X8_seat (x1 : Int32) (x2 : Int32) (σ : jT) : Option (Int32 × jT) :=
  some (0, (gA (gA (gA σ 13 25 x1) 13 26 x2) 13 27 0))
theorem t_X8_seat {S : jS} (hS : jCok S) {d : Nat} {Q : Option Value → jx_H → Prop} {x1 : Int32} {x2 : Int32} {σ : jT} (h : jw (f_X8_seat x1 x2 σ) (fun q => Q none (jh S q.2))) : jx_Sp (d) 111 [.ref 12, .int x1, .int x2] (jh S σ) Q := by
  refine ⟨jm_i111, jm_at111, rfl, rfl, ?_⟩
  show jx_Ex _ jm_l111 jm_b111_0 [.ref 12, .int x1, .int x2] [] _ _
  unfold f_X8_seat at h
  refine xo_2 rfl ?_
  refine xc_33 (i := 768) (q := 13) hS ly12 rfl (xc_P hS (by decide)) ?_
  refine xo_9 ?_
  refine xo_0 rfl ?_
  refine xc_41 (j := 25) hS ly13 ⟨Nat.le_of_ble_eq_true rfl, Nat.le_of_ble_eq_true rfl⟩ (by decide) (by decide) ?_
  refine xo_2 rfl ?_
  refine xc_33 (i := 768) (q := 13) hS ly12 rfl (xc_P hS (by decide)) ?_
  refine xo_9 ?_
  refine xo_0 rfl ?_
  refine xc_41 (j := 26) hS ly13 ⟨Nat.le_of_ble_eq_true rfl, Nat.le_of_ble_eq_true rfl⟩ (by decide) (by decide) ?_
  refine xo_2 rfl ?_
  refine xc_33 (i := 768) (q := 13) hS ly12 rfl (xc_P hS (by decide)) ?_
  refine xo_9 ?_
  refine xo_8 ?_
  refine xc_41 (j := 27) hS ly13 ⟨Nat.le_of_ble_eq_true rfl, Nat.le_of_ble_eq_true rfl⟩ (by decide) (by decide) ?_
  replace h := jw_some h
  exact xo_71 h
/-- Standing.clear, at ['x.now'] -/
def f_X8_clear (σ : jT) : Option (Int32 × jT) :=
  (f_X8_seat (-1) (-1) (gA σ 13 24 0)).bind fun q1 =>
  some (0, q1.2)
theorem t_X8_clear {S : jS} (hS : jCok S) {d : Nat} {Q : Option Value → jx_H → Prop} {σ : jT} (h : jw (f_X8_clear σ) (fun q => Q none (jh S q.2))) : jx_Sp (d + 1) 88 [.ref 12] (jh S σ) Q := by
  refine ⟨jm_i88, jm_at88, rfl, rfl, ?_⟩
  show jx_Ex _ jm_l88 jm_b88_0 [.ref 12] [] _ _
  unfold f_X8_clear at h
  refine xo_2 rfl ?_
  refine xc_33 (i := 768) (q := 13) hS ly12 rfl (xc_P hS (by decide)) ?_
  refine xo_9 ?_
  refine xo_8 ?_
  refine xc_41 (j := 24) hS ly13 ⟨Nat.le_of_ble_eq_true rfl, Nat.le_of_ble_eq_true rfl⟩ (by decide) (by decide) ?_
  refine xo_2 rfl ?_
  refine xo_8 ?_
  refine xo_8 ?_
  refine xo_49 (st' := []) rfl rfl (xc_ly hS ly12) rfl (Nat.le_of_ble_eq_true rfl) ?_
  refine t_X8_seat hS ?_
  refine jw_mono (jw_bind h) (fun q1 h => ?_)
  show jx_Ex _ _ _ _ [] (jh S q1.2) _
  replace h := jw_some h
  exact xo_71 h
