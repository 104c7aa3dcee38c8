/-! ===== methods as functions ===== -/
/-- OfDifferentMindsModel.passes, at ['m', 'int'] R -/
def f_X11_passes_R (x1 : Int32) (σ : jT) : Option (Int32 × jT) :=
  (f_X11_fine σ).bind fun q1 =>
  if q1.1 = 0 then
    some (0, q1.2)
  else
    (f_X11_here_R q1.2).bind fun q3 =>
    if q3.1 = x1 then
      some (1, (gs q3.2 4176 ((q3.2.1 4176) + 1)))
    else
      some (0, q3.2)
theorem t_X11_passes_R {S : jS} (hS : jMok S) {d : Nat} {Q : Option Value → jx_H → Prop} {x1 : Int32} {σ : jT} (h : jw (f_X11_passes_R x1 σ) (fun q => Q (some (.int q.1)) (jh (jSrd S (.ref 77)) q.2))) : jx_Sp (d + 1) 217 [.ref 65, .int x1] (jh (jSrd S (.ref 77)) σ) Q := by
  refine ⟨jm_i217, jm_at217, rfl, rfl, ?_⟩
  show jx_Ex _ jm_l217 jm_b217_0 [.ref 65, .int x1] [] _ _
  unfold f_X11_passes_R at h
  refine xo_2 rfl ?_
  refine xo_49 (st' := []) rfl rfl (xm_ly (jSrd_ok hS (.ref 77)) ly65) rfl (Nat.le_of_ble_eq_true rfl) ?_
  refine t_X11_fine hS ?_
  refine jw_mono (jw_bind h) (fun q1 h => ?_)
  show jx_Ex _ _ _ _ [.int q1.1] (jh (jSrd S (.ref 77)) q1.2) _
  refine xo_55 (t := jm_b217_15) rfl (fun hc2 => ?_) (fun hc2 => ?_)
  · replace h := jw_pos hc2 h
    refine xo_8 ?_
    replace h := jw_some h
    exact xo_70 (by decide) h
  · replace h := jw_neg hc2 h
    refine xo_2 rfl ?_
    refine xo_49 (st' := []) rfl rfl (xm_ly (jSrd_ok hS (.ref 77)) ly65) rfl (Nat.le_of_ble_eq_true rfl) ?_
    refine t_X11_here_R hS ?_
    refine jw_mono (jw_bind h) (fun q3 h => ?_)
    show jx_Ex _ _ _ _ [.int q3.1] (jh (jSrd S (.ref 77)) q3.2) _
    refine xo_0 rfl ?_
    refine xo_61 (t := jm_b217_17) rfl (fun hc4 => ?_) (fun hc4 => ?_)
    · replace h := jw_pos hc4 h
      refine xo_2 rfl ?_
      refine xo_28r ?_
      refine xm_32 (i := 4176) (v := (q3.2.1 4176)) (jSrd_ok hS (.ref 77)) ly65 rfl ⟨Nat.le_of_ble_eq_true rfl, Nat.le_of_ble_eq_true rfl⟩ rfl ?_
      refine xo_8 ?_
      refine xo_14 ?_
      refine xm_34 (i := 4176) (jSrd_ok hS (.ref 77)) ly65 rfl ⟨Nat.le_of_ble_eq_true rfl, Nat.le_of_ble_eq_true rfl⟩ ?_
      refine xo_8 ?_
      replace h := jw_some h
      exact xo_70 (by decide) h
    · replace h := jw_neg hc4 h
      refine xo_8 ?_
      replace h := jw_some h
      exact xo_70 (by decide) h
/-- OfDifferentMindsModel.held, at ['m', 'int'] R -/
def f_X11_held_R (rec : Nat → List Int32 → jT → Option (Int32 × jT)) (x1 : Int32) (σ : jT) : Option (Int32 × jT) :=
  (rec 0 [x1] σ).bind fun q1 =>
  (f_X11_passes_R 60 q1.2).bind fun q2 =>
  if q2.1 = 0 then
    (f_X11_passes_R 62 q2.2).bind fun q4 =>
    if q4.1 = 0 then
      (f_X11_passes_R 61 q4.2).bind fun q6 =>
      if q6.1 = 0 then
        some (q1.1, q6.2)
      else
        (rec 0 [x1] q6.2).bind fun q8 =>
        if ¬ q1.1 = q8.1 then
          some (0, q8.2)
        else
          some (1, q8.2)
    else
      (rec 0 [x1] q4.2).bind fun q10 =>
      if q1.1 ≤ q10.1 then
        some (0, q10.2)
      else
        some (1, q10.2)
  else
    (rec 0 [x1] q2.2).bind fun q12 =>
    if q12.1 ≤ q1.1 then
      some (0, q12.2)
    else
      some (1, q12.2)
theorem t_X11_held_R {S : jS} (hS : jMok S) {d : Nat} {Q : Option Value → jx_H → Prop} {rec : Nat → List Int32 → jT → Option (Int32 × jT)} (hrec_X11_sum_R : ∀ {x1 : Int32} {σ : jT} {Q : Option Value → jx_H → Prop}, jw (rec 0 [x1] σ) (fun q => Q (some (.int q.1)) (jh (jSrd S (.ref 77)) q.2)) → jx_Sp (d + 3) 226 [.ref 65, .int x1] (jh (jSrd S (.ref 77)) σ) Q) {x1 : Int32} {σ : jT} (h : jw (f_X11_held_R rec x1 σ) (fun q => Q (some (.int q.1)) (jh (jSrd S (.ref 77)) q.2))) : jx_Sp (d + 4) 225 [.ref 65, .int x1] (jh (jSrd S (.ref 77)) σ) Q := by
  refine ⟨jm_i225, jm_at225, rfl, rfl, ?_⟩
  show jx_Ex _ jm_l225 jm_b225_0 [.ref 65, .int x1, .retAddr 0] [] _ _
  unfold f_X11_held_R at h
  refine xo_2 rfl ?_
  refine xo_0 rfl ?_
  refine xo_49 (st' := []) rfl rfl (xm_ly (jSrd_ok hS (.ref 77)) ly65) rfl (Nat.le_of_ble_eq_true rfl) ?_
  refine hrec_X11_sum_R ?_
  refine jw_mono (jw_bind h) (fun q1 h => ?_)
  show jx_Ex _ _ _ _ [.int q1.1] (jh (jSrd S (.ref 77)) q1.2) _
  refine xo_4 (ls' := [.ref 65, .int x1, .int q1.1]) rfl ?_
  refine xo_2 rfl ?_
  refine xo_9 ?_
  refine xo_49 (st' := []) rfl rfl (xm_ly (jSrd_ok hS (.ref 77)) ly65) rfl (Nat.le_of_ble_eq_true rfl) ?_
  refine t_X11_passes_R hS ?_
  refine jw_mono (jw_bind h) (fun q2 h => ?_)
  show jx_Ex _ _ _ _ [.int q2.1] (jh (jSrd S (.ref 77)) q2.2) _
  refine xo_55 (t := jm_b225_30) rfl (fun hc3 => ?_) (fun hc3 => ?_)
  · replace h := jw_pos hc3 h
    refine xo_2 rfl ?_
    refine xo_9 ?_
    refine xo_49 (st' := []) rfl rfl (xm_ly (jSrd_ok hS (.ref 77)) ly65) rfl (Nat.le_of_ble_eq_true rfl) ?_
    refine t_X11_passes_R hS ?_
    refine jw_mono (jw_bind h) (fun q4 h => ?_)
    show jx_Ex _ _ _ _ [.int q4.1] (jh (jSrd S (.ref 77)) q4.2) _
    refine xo_55 (t := jm_b225_54) rfl (fun hc5 => ?_) (fun hc5 => ?_)
    · replace h := jw_pos hc5 h
      refine xo_2 rfl ?_
      refine xo_9 ?_
      refine xo_49 (st' := []) rfl rfl (xm_ly (jSrd_ok hS (.ref 77)) ly65) rfl (Nat.le_of_ble_eq_true rfl) ?_
      refine t_X11_passes_R hS ?_
      refine jw_mono (jw_bind h) (fun q6 h => ?_)
      show jx_Ex _ _ _ _ [.int q6.1] (jh (jSrd S (.ref 77)) q6.2) _
      refine xo_55 (t := jm_b225_78) rfl (fun hc7 => ?_) (fun hc7 => ?_)
      · replace h := jw_pos hc7 h
        refine xo_0 rfl ?_
        replace h := jw_some h
        exact xo_69 h
      · replace h := jw_neg hc7 h
        refine xo_0 rfl ?_
        refine xo_2 rfl ?_
        refine xo_0 rfl ?_
        refine xo_49 (st' := [.int q1.1]) rfl rfl (xm_ly (jSrd_ok hS (.ref 77)) ly65) rfl (Nat.le_of_ble_eq_true rfl) ?_
        refine hrec_X11_sum_R ?_
        refine jw_mono (jw_bind h) (fun q8 h => ?_)
        show jx_Ex _ _ _ _ [.int q8.1, .int q1.1] (jh (jSrd S (.ref 77)) q8.2) _
        refine xo_62 (t := jm_b225_76) rfl (fun hc9 => ?_) (fun hc9 => ?_)
        · replace h := jw_pos hc9 h
          refine xo_8 ?_
          replace h := jw_some h
          exact xo_69 h
        · replace h := jw_neg hc9 h
          refine xo_8 ?_
          refine xo_54 (t := jm_b225_77) rfl ?_
          replace h := jw_some h
          exact xo_69 h
    · replace h := jw_neg hc5 h
      refine xo_0 rfl ?_
      refine xo_2 rfl ?_
      refine xo_0 rfl ?_
      refine xo_49 (st' := [.int q1.1]) rfl rfl (xm_ly (jSrd_ok hS (.ref 77)) ly65) rfl (Nat.le_of_ble_eq_true rfl) ?_
      refine hrec_X11_sum_R ?_
      refine jw_mono (jw_bind h) (fun q10 h => ?_)
      show jx_Ex _ _ _ _ [.int q10.1, .int q1.1] (jh (jSrd S (.ref 77)) q10.2) _
      refine xo_66 (t := jm_b225_52) rfl (fun hc11 => ?_) (fun hc11 => ?_)
      · replace h := jw_pos hc11 h
        refine xo_8 ?_
        replace h := jw_some h
        exact xo_69 h
      · replace h := jw_neg hc11 h
        refine xo_8 ?_
        refine xo_54 (t := jm_b225_53) rfl ?_
        replace h := jw_some h
        exact xo_69 h
  · replace h := jw_neg hc3 h
    refine xo_0 rfl ?_
    refine xo_2 rfl ?_
    refine xo_0 rfl ?_
    refine xo_49 (st' := [.int q1.1]) rfl rfl (xm_ly (jSrd_ok hS (.ref 77)) ly65) rfl (Nat.le_of_ble_eq_true rfl) ?_
    refine hrec_X11_sum_R ?_
    refine jw_mono (jw_bind h) (fun q12 h => ?_)
    show jx_Ex _ _ _ _ [.int q12.1, .int q1.1] (jh (jSrd S (.ref 77)) q12.2) _
    refine xo_64 (t := jm_b225_28) rfl (fun hc13 => ?_) (fun hc13 => ?_)
    · replace h := jw_pos hc13 h
      refine xo_8 ?_
      replace h := jw_some h
      exact xo_69 h
    · replace h := jw_neg hc13 h
      refine xo_8 ?_
      refine xo_54 (t := jm_b225_29) rfl ?_
      replace h := jw_some h
      exact xo_69 h
/-- OfDifferentMindsModel.sum, at ['m', 'int'] R -/
def f_X11_sum_R_b78 (rec : Nat → List Int32 → jT → Option (Int32 × jT)) (k6 : Int32 → Int32 → jT → Option (Int32 × jT)) (x1 : Int32) (s0 : Int32) (σ : jT) : Option (Int32 × jT) :=
  k6 x1 s0 σ
def f_X11_sum_R_b45 (rec : Nat → List Int32 → jT → Option (Int32 × jT)) (k6 : Int32 → Int32 → jT → Option (Int32 × jT)) (x1 : Int32) (x2 : Int32) (s0 : Int32) (σ : jT) : Option (Int32 × jT) :=
  (rec 1 [x1] (gs σ 4176 ((σ.1 4176) + 1))).bind fun q1 =>
  if s0 = 0 then
    f_X11_sum_R_b78 rec k6 x1 (x2 - q1.1) q1.2
  else
    f_X11_sum_R_b78 rec k6 x1 (x2 + q1.1) q1.2
def f_X11_sum_R_b31 (rec : Nat → List Int32 → jT → Option (Int32 × jT)) (k6 : Int32 → Int32 → jT → Option (Int32 × jT)) (x1 : Int32) (x2 : Int32) (σ : jT) : Option (Int32 × jT) :=
  (f_X11_here_R σ).bind fun q1 =>
  if ¬ q1.1 = 43 then
    f_X11_sum_R_b45 rec k6 x1 x2 0 q1.2
  else
    f_X11_sum_R_b45 rec k6 x1 x2 1 q1.2
def f_X11_sum_R_b6 (rec : Nat → List Int32 → jT → Option (Int32 × jT)) : Nat → Int32 → Int32 → jT → Option (Int32 × jT)
  | 0, _, _, _ => none
  | n + 1, x1, x2, σ =>
    (f_X11_fine σ).bind fun q1 =>
    if q1.1 = 0 then
      some (x2, q1.2)
    else
      (f_X11_here_R q1.2).bind fun q3 =>
      if q3.1 = 43 then
        f_X11_sum_R_b31 rec (f_X11_sum_R_b6 rec n) x1 x2 q3.2
      else
        (f_X11_here_R q3.2).bind fun q5 =>
        if ¬ q5.1 = 45 then
          some (x2, q5.2)
        else
          f_X11_sum_R_b31 rec (f_X11_sum_R_b6 rec n) x1 x2 q5.2
def f_X11_sum_R (rec : Nat → List Int32 → jT → Option (Int32 × jT)) (x1 : Int32) (σ : jT) : Option (Int32 × jT) :=
  (rec 1 [x1] σ).bind fun q1 =>
  f_X11_sum_R_b6 rec 1000 x1 q1.1 q1.2
theorem t_X11_sum_R_b78 {S : jS} (hS : jMok S) {d : Nat} {Q : Option Value → jx_H → Prop} {rec : Nat → List Int32 → jT → Option (Int32 × jT)} (hrec_X11_product_R : ∀ {x1 : Int32} {σ : jT} {Q : Option Value → jx_H → Prop}, jw (rec 1 [x1] σ) (fun q => Q (some (.int q.1)) (jh (jSrd S (.ref 77)) q.2)) → jx_Sp (d + 3) 227 [.ref 65, .int x1] (jh (jSrd S (.ref 77)) σ) Q) {k6 : Int32 → Int32 → jT → Option (Int32 × jT)} (hk6 : ∀ {x1 : Int32} {x2 : Int32} {w3 : Value} {w4 : Value} {σ : jT}, jw (k6 x1 x2 σ) (fun q => Q (some (.int q.1)) (jh (jSrd S (.ref 77)) q.2)) → jx_Ex (d + 4) jm_l226 jm_b226_6 [.ref 65, .int x1, .int x2, w3, w4] [] (jh (jSrd S (.ref 77)) σ) Q) {x1 : Int32} {s0 : Int32} {w2 : Value} {w3 : Value} {w4 : Value} {σ : jT} (h : jw (f_X11_sum_R_b78 rec k6 x1 s0 σ) (fun q => Q (some (.int q.1)) (jh (jSrd S (.ref 77)) q.2))) : jx_Ex (d + 4) jm_l226 jm_b226_78 [.ref 65, .int x1, w2, w3, w4] [.int s0] (jh (jSrd S (.ref 77)) σ) Q := by
  unfold f_X11_sum_R_b78 at h
  refine xo_4 (ls' := [.ref 65, .int x1, .int s0, w3, w4]) rfl ?_
  refine xo_54 (t := jm_b226_6) rfl ?_
  exact hk6 h
theorem t_X11_sum_R_b45 {S : jS} (hS : jMok S) {d : Nat} {Q : Option Value → jx_H → Prop} {rec : Nat → List Int32 → jT → Option (Int32 × jT)} (hrec_X11_product_R : ∀ {x1 : Int32} {σ : jT} {Q : Option Value → jx_H → Prop}, jw (rec 1 [x1] σ) (fun q => Q (some (.int q.1)) (jh (jSrd S (.ref 77)) q.2)) → jx_Sp (d + 3) 227 [.ref 65, .int x1] (jh (jSrd S (.ref 77)) σ) Q) {k6 : Int32 → Int32 → jT → Option (Int32 × jT)} (hk6 : ∀ {x1 : Int32} {x2 : Int32} {w3 : Value} {w4 : Value} {σ : jT}, jw (k6 x1 x2 σ) (fun q => Q (some (.int q.1)) (jh (jSrd S (.ref 77)) q.2)) → jx_Ex (d + 4) jm_l226 jm_b226_6 [.ref 65, .int x1, .int x2, w3, w4] [] (jh (jSrd S (.ref 77)) σ) Q) {x1 : Int32} {x2 : Int32} {s0 : Int32} {w3 : Value} {w4 : Value} {σ : jT} (h : jw (f_X11_sum_R_b45 rec k6 x1 x2 s0 σ) (fun q => Q (some (.int q.1)) (jh (jSrd S (.ref 77)) q.2))) : jx_Ex (d + 4) jm_l226 jm_b226_45 [.ref 65, .int x1, .int x2, w3, w4] [.int s0] (jh (jSrd S (.ref 77)) σ) Q := by
  unfold f_X11_sum_R_b45 at h
  refine xo_4 (ls' := [.ref 65, .int x1, .int x2, .int s0, w4]) rfl ?_
  refine xo_2 rfl ?_
  refine xo_28r ?_
  refine xm_32 (i := 4176) (v := (σ.1 4176)) (jSrd_ok hS (.ref 77)) ly65 rfl ⟨Nat.le_of_ble_eq_true rfl, Nat.le_of_ble_eq_true rfl⟩ rfl ?_
  refine xo_8 ?_
  refine xo_14 ?_
  refine xm_34 (i := 4176) (jSrd_ok hS (.ref 77)) ly65 rfl ⟨Nat.le_of_ble_eq_true rfl, Nat.le_of_ble_eq_true rfl⟩ ?_
  refine xo_2 rfl ?_
  refine xo_0 rfl ?_
  refine xo_49 (st' := []) rfl rfl (xm_ly (jSrd_ok hS (.ref 77)) ly65) rfl (Nat.le_of_ble_eq_true rfl) ?_
  refine hrec_X11_product_R ?_
  refine jw_mono (jw_bind h) (fun q1 h => ?_)
  show jx_Ex _ _ _ _ [.int q1.1] (jh (jSrd S (.ref 77)) q1.2) _
  refine xo_5 (ls' := [.ref 65, .int x1, .int x2, .int s0, .int q1.1]) rfl ?_
  refine xo_0 rfl ?_
  refine xo_55 (t := jm_b226_74) rfl (fun hc2 => ?_) (fun hc2 => ?_)
  · replace h := jw_pos hc2 h
    refine xo_0 rfl ?_
    refine xo_1 rfl ?_
    refine xo_15 ?_
    exact t_X11_sum_R_b78 hS hrec_X11_product_R hk6 h
  · replace h := jw_neg hc2 h
    refine xo_0 rfl ?_
    refine xo_1 rfl ?_
    refine xo_14 ?_
    refine xo_54 (t := jm_b226_78) rfl ?_
    exact t_X11_sum_R_b78 hS hrec_X11_product_R hk6 h
theorem t_X11_sum_R_b31 {S : jS} (hS : jMok S) {d : Nat} {Q : Option Value → jx_H → Prop} {rec : Nat → List Int32 → jT → Option (Int32 × jT)} (hrec_X11_product_R : ∀ {x1 : Int32} {σ : jT} {Q : Option Value → jx_H → Prop}, jw (rec 1 [x1] σ) (fun q => Q (some (.int q.1)) (jh (jSrd S (.ref 77)) q.2)) → jx_Sp (d + 3) 227 [.ref 65, .int x1] (jh (jSrd S (.ref 77)) σ) Q) {k6 : Int32 → Int32 → jT → Option (Int32 × jT)} (hk6 : ∀ {x1 : Int32} {x2 : Int32} {w3 : Value} {w4 : Value} {σ : jT}, jw (k6 x1 x2 σ) (fun q => Q (some (.int q.1)) (jh (jSrd S (.ref 77)) q.2)) → jx_Ex (d + 4) jm_l226 jm_b226_6 [.ref 65, .int x1, .int x2, w3, w4] [] (jh (jSrd S (.ref 77)) σ) Q) {x1 : Int32} {x2 : Int32} {w3 : Value} {w4 : Value} {σ : jT} (h : jw (f_X11_sum_R_b31 rec k6 x1 x2 σ) (fun q => Q (some (.int q.1)) (jh (jSrd S (.ref 77)) q.2))) : jx_Ex (d + 4) jm_l226 jm_b226_31 [.ref 65, .int x1, .int x2, w3, w4] [] (jh (jSrd S (.ref 77)) σ) Q := by
  unfold f_X11_sum_R_b31 at h
  refine xo_2 rfl ?_
  refine xo_49 (st' := []) rfl rfl (xm_ly (jSrd_ok hS (.ref 77)) ly65) rfl (Nat.le_of_ble_eq_true rfl) ?_
  refine t_X11_here_R hS ?_
  refine jw_mono (jw_bind h) (fun q1 h => ?_)
  show jx_Ex _ _ _ _ [.int q1.1] (jh (jSrd S (.ref 77)) q1.2) _
  refine xo_9 ?_
  refine xo_62 (t := jm_b226_44) rfl (fun hc2 => ?_) (fun hc2 => ?_)
  · replace h := jw_pos hc2 h
    refine xo_8 ?_
    exact t_X11_sum_R_b45 hS hrec_X11_product_R hk6 h
  · replace h := jw_neg hc2 h
    refine xo_8 ?_
    refine xo_54 (t := jm_b226_45) rfl ?_
    exact t_X11_sum_R_b45 hS hrec_X11_product_R hk6 h
theorem t_X11_sum_R_b6 {S : jS} (hS : jMok S) {d : Nat} {Q : Option Value → jx_H → Prop} {rec : Nat → List Int32 → jT → Option (Int32 × jT)} (hrec_X11_product_R : ∀ {x1 : Int32} {σ : jT} {Q : Option Value → jx_H → Prop}, jw (rec 1 [x1] σ) (fun q => Q (some (.int q.1)) (jh (jSrd S (.ref 77)) q.2)) → jx_Sp (d + 3) 227 [.ref 65, .int x1] (jh (jSrd S (.ref 77)) σ) Q) : ∀ (n : Nat) {x1 : Int32} {x2 : Int32} {w3 : Value} {w4 : Value} {σ : jT}, jw (f_X11_sum_R_b6 rec n x1 x2 σ) (fun q => Q (some (.int q.1)) (jh (jSrd S (.ref 77)) q.2)) → jx_Ex (d + 4) jm_l226 jm_b226_6 [.ref 65, .int x1, .int x2, w3, w4] [] (jh (jSrd S (.ref 77)) σ) Q := by
  intro n
  induction n with
  | zero => intro x1 x2 w3 w4 σ h; exact jw_none h
  | succ n ih =>
    intro x1 x2 w3 w4 σ h
    rw [f_X11_sum_R_b6] at h
    refine xo_2 rfl ?_
    refine xo_49 (st' := []) rfl rfl (xm_ly (jSrd_ok hS (.ref 77)) ly65) rfl (Nat.le_of_ble_eq_true rfl) ?_
    refine t_X11_fine hS ?_
    refine jw_mono (jw_bind h) (fun q1 h => ?_)
    show jx_Ex _ _ _ _ [.int q1.1] (jh (jSrd S (.ref 77)) q1.2) _
    refine xo_55 (t := jm_b226_82) rfl (fun hc2 => ?_) (fun hc2 => ?_)
    · replace h := jw_pos hc2 h
      refine xo_0 rfl ?_
      replace h := jw_some h
      exact xo_69 h
    · replace h := jw_neg hc2 h
      refine xo_2 rfl ?_
      refine xo_49 (st' := []) rfl rfl (xm_ly (jSrd_ok hS (.ref 77)) ly65) rfl (Nat.le_of_ble_eq_true rfl) ?_
      refine t_X11_here_R hS ?_
      refine jw_mono (jw_bind h) (fun q3 h => ?_)
      show jx_Ex _ _ _ _ [.int q3.1] (jh (jSrd S (.ref 77)) q3.2) _
      refine xo_9 ?_
      refine xo_61 (t := jm_b226_31) rfl (fun hc4 => ?_) (fun hc4 => ?_)
      · replace h := jw_pos hc4 h
        exact t_X11_sum_R_b31 hS hrec_X11_product_R ih h
      · replace h := jw_neg hc4 h
        refine xo_2 rfl ?_
        refine xo_49 (st' := []) rfl rfl (xm_ly (jSrd_ok hS (.ref 77)) ly65) rfl (Nat.le_of_ble_eq_true rfl) ?_
        refine t_X11_here_R hS ?_
        refine jw_mono (jw_bind h) (fun q5 h => ?_)
        show jx_Ex _ _ _ _ [.int q5.1] (jh (jSrd S (.ref 77)) q5.2) _
        refine xo_9 ?_
        refine xo_62 (t := jm_b226_82) rfl (fun hc6 => ?_) (fun hc6 => ?_)
        · replace h := jw_pos hc6 h
          refine xo_0 rfl ?_
          replace h := jw_some h
          exact xo_69 h
        · replace h := jw_neg hc6 h
          exact t_X11_sum_R_b31 hS hrec_X11_product_R ih h
theorem t_X11_sum_R {S : jS} (hS : jMok S) {d : Nat} {Q : Option Value → jx_H → Prop} {rec : Nat → List Int32 → jT → Option (Int32 × jT)} (hrec_X11_product_R : ∀ {x1 : Int32} {σ : jT} {Q : Option Value → jx_H → Prop}, jw (rec 1 [x1] σ) (fun q => Q (some (.int q.1)) (jh (jSrd S (.ref 77)) q.2)) → jx_Sp (d + 3) 227 [.ref 65, .int x1] (jh (jSrd S (.ref 77)) σ) Q) {x1 : Int32} {σ : jT} (h : jw (f_X11_sum_R rec x1 σ) (fun q => Q (some (.int q.1)) (jh (jSrd S (.ref 77)) q.2))) : jx_Sp (d + 4) 226 [.ref 65, .int x1] (jh (jSrd S (.ref 77)) σ) Q := by
  refine ⟨jm_i226, jm_at226, rfl, rfl, ?_⟩
  show jx_Ex _ jm_l226 jm_b226_0 [.ref 65, .int x1, .retAddr 0, .retAddr 0, .retAddr 0] [] _ _
  unfold f_X11_sum_R at h
  refine xo_2 rfl ?_
  refine xo_0 rfl ?_
  refine xo_49 (st' := []) rfl rfl (xm_ly (jSrd_ok hS (.ref 77)) ly65) rfl (Nat.le_of_ble_eq_true rfl) ?_
  refine hrec_X11_product_R ?_
  refine jw_mono (jw_bind h) (fun q1 h => ?_)
  show jx_Ex _ _ _ _ [.int q1.1] (jh (jSrd S (.ref 77)) q1.2) _
  refine xo_4 (ls' := [.ref 65, .int x1, .int q1.1, .retAddr 0, .retAddr 0]) rfl ?_
  exact t_X11_sum_R_b6 hS hrec_X11_product_R 1000 h
/-- OfDifferentMindsModel.product, at ['m', 'int'] R -/
def f_X11_product_R_b87 (rec : Nat → List Int32 → jT → Option (Int32 × jT)) (k6 : Int32 → Int32 → jT → Option (Int32 × jT)) (x1 : Int32) (s0 : Int32) (σ : jT) : Option (Int32 × jT) :=
  k6 x1 s0 σ
def f_X11_product_R_b45 (rec : Nat → List Int32 → jT → Option (Int32 × jT)) (k6 : Int32 → Int32 → jT → Option (Int32 × jT)) (x1 : Int32) (x2 : Int32) (s0 : Int32) (σ : jT) : Option (Int32 × jT) :=
  (rec 2 [x1] (gs σ 4176 ((σ.1 4176) + 1))).bind fun q1 =>
  if s0 = 0 then
    if ¬ q1.1 = 0 then
      if q1.1 = 0 then none else
      f_X11_product_R_b87 rec k6 x1 (x2 / q1.1) q1.2
    else
      f_X11_product_R_b87 rec k6 x1 0 q1.2
  else
    f_X11_product_R_b87 rec k6 x1 (x2 * q1.1) q1.2
def f_X11_product_R_b31 (rec : Nat → List Int32 → jT → Option (Int32 × jT)) (k6 : Int32 → Int32 → jT → Option (Int32 × jT)) (x1 : Int32) (x2 : Int32) (σ : jT) : Option (Int32 × jT) :=
  (f_X11_here_R σ).bind fun q1 =>
  if ¬ q1.1 = 42 then
    f_X11_product_R_b45 rec k6 x1 x2 0 q1.2
  else
    f_X11_product_R_b45 rec k6 x1 x2 1 q1.2
def f_X11_product_R_b6 (rec : Nat → List Int32 → jT → Option (Int32 × jT)) : Nat → Int32 → Int32 → jT → Option (Int32 × jT)
  | 0, _, _, _ => none
  | n + 1, x1, x2, σ =>
    (f_X11_fine σ).bind fun q1 =>
    if q1.1 = 0 then
      some (x2, q1.2)
    else
      (f_X11_here_R q1.2).bind fun q3 =>
      if q3.1 = 42 then
        f_X11_product_R_b31 rec (f_X11_product_R_b6 rec n) x1 x2 q3.2
      else
        (f_X11_here_R q3.2).bind fun q5 =>
        if ¬ q5.1 = 47 then
          some (x2, q5.2)
        else
          f_X11_product_R_b31 rec (f_X11_product_R_b6 rec n) x1 x2 q5.2
def f_X11_product_R (rec : Nat → List Int32 → jT → Option (Int32 × jT)) (x1 : Int32) (σ : jT) : Option (Int32 × jT) :=
  (rec 2 [x1] σ).bind fun q1 =>
  f_X11_product_R_b6 rec 1000 x1 q1.1 q1.2
theorem t_X11_product_R_b87 {S : jS} (hS : jMok S) {d : Nat} {Q : Option Value → jx_H → Prop} {rec : Nat → List Int32 → jT → Option (Int32 × jT)} (hrec_X11_thing_R : ∀ {x1 : Int32} {σ : jT} {Q : Option Value → jx_H → Prop}, jw (rec 2 [x1] σ) (fun q => Q (some (.int q.1)) (jh (jSrd S (.ref 77)) q.2)) → jx_Sp (d + 3) 229 [.ref 65, .int x1] (jh (jSrd S (.ref 77)) σ) Q) {k6 : Int32 → Int32 → jT → Option (Int32 × jT)} (hk6 : ∀ {x1 : Int32} {x2 : Int32} {w3 : Value} {w4 : Value} {σ : jT}, jw (k6 x1 x2 σ) (fun q => Q (some (.int q.1)) (jh (jSrd S (.ref 77)) q.2)) → jx_Ex (d + 4) jm_l227 jm_b227_6 [.ref 65, .int x1, .int x2, w3, w4] [] (jh (jSrd S (.ref 77)) σ) Q) {x1 : Int32} {s0 : Int32} {w2 : Value} {w3 : Value} {w4 : Value} {σ : jT} (h : jw (f_X11_product_R_b87 rec k6 x1 s0 σ) (fun q => Q (some (.int q.1)) (jh (jSrd S (.ref 77)) q.2))) : jx_Ex (d + 4) jm_l227 jm_b227_87 [.ref 65, .int x1, w2, w3, w4] [.int s0] (jh (jSrd S (.ref 77)) σ) Q := by
  unfold f_X11_product_R_b87 at h
  refine xo_4 (ls' := [.ref 65, .int x1, .int s0, w3, w4]) rfl ?_
  refine xo_54 (t := jm_b227_6) rfl ?_
  exact hk6 h
theorem t_X11_product_R_b45 {S : jS} (hS : jMok S) {d : Nat} {Q : Option Value → jx_H → Prop} {rec : Nat → List Int32 → jT → Option (Int32 × jT)} (hrec_X11_thing_R : ∀ {x1 : Int32} {σ : jT} {Q : Option Value → jx_H → Prop}, jw (rec 2 [x1] σ) (fun q => Q (some (.int q.1)) (jh (jSrd S (.ref 77)) q.2)) → jx_Sp (d + 3) 229 [.ref 65, .int x1] (jh (jSrd S (.ref 77)) σ) Q) {k6 : Int32 → Int32 → jT → Option (Int32 × jT)} (hk6 : ∀ {x1 : Int32} {x2 : Int32} {w3 : Value} {w4 : Value} {σ : jT}, jw (k6 x1 x2 σ) (fun q => Q (some (.int q.1)) (jh (jSrd S (.ref 77)) q.2)) → jx_Ex (d + 4) jm_l227 jm_b227_6 [.ref 65, .int x1, .int x2, w3, w4] [] (jh (jSrd S (.ref 77)) σ) Q) {x1 : Int32} {x2 : Int32} {s0 : Int32} {w3 : Value} {w4 : Value} {σ : jT} (h : jw (f_X11_product_R_b45 rec k6 x1 x2 s0 σ) (fun q => Q (some (.int q.1)) (jh (jSrd S (.ref 77)) q.2))) : jx_Ex (d + 4) jm_l227 jm_b227_45 [.ref 65, .int x1, .int x2, w3, w4] [.int s0] (jh (jSrd S (.ref 77)) σ) Q := by
  unfold f_X11_product_R_b45 at h
  refine xo_4 (ls' := [.ref 65, .int x1, .int x2, .int s0, w4]) rfl ?_
  refine xo_2 rfl ?_
  refine xo_28r ?_
  refine xm_32 (i := 4176) (v := (σ.1 4176)) (jSrd_ok hS (.ref 77)) ly65 rfl ⟨Nat.le_of_ble_eq_true rfl, Nat.le_of_ble_eq_true rfl⟩ rfl ?_
  refine xo_8 ?_
  refine xo_14 ?_
  refine xm_34 (i := 4176) (jSrd_ok hS (.ref 77)) ly65 rfl ⟨Nat.le_of_ble_eq_true rfl, Nat.le_of_ble_eq_true rfl⟩ ?_
  refine xo_2 rfl ?_
  refine xo_0 rfl ?_
  refine xo_49 (st' := []) rfl rfl (xm_ly (jSrd_ok hS (.ref 77)) ly65) rfl (Nat.le_of_ble_eq_true rfl) ?_
  refine hrec_X11_thing_R ?_
  refine jw_mono (jw_bind h) (fun q1 h => ?_)
  show jx_Ex _ _ _ _ [.int q1.1] (jh (jSrd S (.ref 77)) q1.2) _
  refine xo_5 (ls' := [.ref 65, .int x1, .int x2, .int s0, .int q1.1]) rfl ?_
  refine xo_0 rfl ?_
  refine xo_55 (t := jm_b227_74) rfl (fun hc2 => ?_) (fun hc2 => ?_)
  · replace h := jw_pos hc2 h
    refine xo_1 rfl ?_
    refine xo_56 (t := jm_b227_83) rfl (fun hc3 => ?_) (fun hc3 => ?_)
    · replace h := jw_pos hc3 h
      refine xo_0 rfl ?_
      refine xo_1 rfl ?_
      obtain ⟨hy4, h⟩ := jw_chn h
      refine xo_17 hy4 ?_
      exact t_X11_product_R_b87 hS hrec_X11_thing_R hk6 h
    · replace h := jw_neg hc3 h
      refine xo_8 ?_
      refine xo_54 (t := jm_b227_87) rfl ?_
      exact t_X11_product_R_b87 hS hrec_X11_thing_R hk6 h
  · replace h := jw_neg hc2 h
    refine xo_0 rfl ?_
    refine xo_1 rfl ?_
    refine xo_16 ?_
    refine xo_54 (t := jm_b227_87) rfl ?_
    exact t_X11_product_R_b87 hS hrec_X11_thing_R hk6 h
theorem t_X11_product_R_b31 {S : jS} (hS : jMok S) {d : Nat} {Q : Option Value → jx_H → Prop} {rec : Nat → List Int32 → jT → Option (Int32 × jT)} (hrec_X11_thing_R : ∀ {x1 : Int32} {σ : jT} {Q : Option Value → jx_H → Prop}, jw (rec 2 [x1] σ) (fun q => Q (some (.int q.1)) (jh (jSrd S (.ref 77)) q.2)) → jx_Sp (d + 3) 229 [.ref 65, .int x1] (jh (jSrd S (.ref 77)) σ) Q) {k6 : Int32 → Int32 → jT → Option (Int32 × jT)} (hk6 : ∀ {x1 : Int32} {x2 : Int32} {w3 : Value} {w4 : Value} {σ : jT}, jw (k6 x1 x2 σ) (fun q => Q (some (.int q.1)) (jh (jSrd S (.ref 77)) q.2)) → jx_Ex (d + 4) jm_l227 jm_b227_6 [.ref 65, .int x1, .int x2, w3, w4] [] (jh (jSrd S (.ref 77)) σ) Q) {x1 : Int32} {x2 : Int32} {w3 : Value} {w4 : Value} {σ : jT} (h : jw (f_X11_product_R_b31 rec k6 x1 x2 σ) (fun q => Q (some (.int q.1)) (jh (jSrd S (.ref 77)) q.2))) : jx_Ex (d + 4) jm_l227 jm_b227_31 [.ref 65, .int x1, .int x2, w3, w4] [] (jh (jSrd S (.ref 77)) σ) Q := by
  unfold f_X11_product_R_b31 at h
  refine xo_2 rfl ?_
  refine xo_49 (st' := []) rfl rfl (xm_ly (jSrd_ok hS (.ref 77)) ly65) rfl (Nat.le_of_ble_eq_true rfl) ?_
  refine t_X11_here_R hS ?_
  refine jw_mono (jw_bind h) (fun q1 h => ?_)
  show jx_Ex _ _ _ _ [.int q1.1] (jh (jSrd S (.ref 77)) q1.2) _
  refine xo_9 ?_
  refine xo_62 (t := jm_b227_44) rfl (fun hc2 => ?_) (fun hc2 => ?_)
  · replace h := jw_pos hc2 h
    refine xo_8 ?_
    exact t_X11_product_R_b45 hS hrec_X11_thing_R hk6 h
  · replace h := jw_neg hc2 h
    refine xo_8 ?_
    refine xo_54 (t := jm_b227_45) rfl ?_
    exact t_X11_product_R_b45 hS hrec_X11_thing_R hk6 h
theorem t_X11_product_R_b6 {S : jS} (hS : jMok S) {d : Nat} {Q : Option Value → jx_H → Prop} {rec : Nat → List Int32 → jT → Option (Int32 × jT)} (hrec_X11_thing_R : ∀ {x1 : Int32} {σ : jT} {Q : Option Value → jx_H → Prop}, jw (rec 2 [x1] σ) (fun q => Q (some (.int q.1)) (jh (jSrd S (.ref 77)) q.2)) → jx_Sp (d + 3) 229 [.ref 65, .int x1] (jh (jSrd S (.ref 77)) σ) Q) : ∀ (n : Nat) {x1 : Int32} {x2 : Int32} {w3 : Value} {w4 : Value} {σ : jT}, jw (f_X11_product_R_b6 rec n x1 x2 σ) (fun q => Q (some (.int q.1)) (jh (jSrd S (.ref 77)) q.2)) → jx_Ex (d + 4) jm_l227 jm_b227_6 [.ref 65, .int x1, .int x2, w3, w4] [] (jh (jSrd S (.ref 77)) σ) Q := by
  intro n
  induction n with
  | zero => intro x1 x2 w3 w4 σ h; exact jw_none h
  | succ n ih =>
    intro x1 x2 w3 w4 σ h
    rw [f_X11_product_R_b6] at h
    refine xo_2 rfl ?_
    refine xo_49 (st' := []) rfl rfl (xm_ly (jSrd_ok hS (.ref 77)) ly65) rfl (Nat.le_of_ble_eq_true rfl) ?_
    refine t_X11_fine hS ?_
    refine jw_mono (jw_bind h) (fun q1 h => ?_)
    show jx_Ex _ _ _ _ [.int q1.1] (jh (jSrd S (.ref 77)) q1.2) _
    refine xo_55 (t := jm_b227_91) rfl (fun hc2 => ?_) (fun hc2 => ?_)
    · replace h := jw_pos hc2 h
      refine xo_0 rfl ?_
      replace h := jw_some h
      exact xo_69 h
    · replace h := jw_neg hc2 h
      refine xo_2 rfl ?_
      refine xo_49 (st' := []) rfl rfl (xm_ly (jSrd_ok hS (.ref 77)) ly65) rfl (Nat.le_of_ble_eq_true rfl) ?_
      refine t_X11_here_R hS ?_
      refine jw_mono (jw_bind h) (fun q3 h => ?_)
      show jx_Ex _ _ _ _ [.int q3.1] (jh (jSrd S (.ref 77)) q3.2) _
      refine xo_9 ?_
      refine xo_61 (t := jm_b227_31) rfl (fun hc4 => ?_) (fun hc4 => ?_)
      · replace h := jw_pos hc4 h
        exact t_X11_product_R_b31 hS hrec_X11_thing_R ih h
      · replace h := jw_neg hc4 h
        refine xo_2 rfl ?_
        refine xo_49 (st' := []) rfl rfl (xm_ly (jSrd_ok hS (.ref 77)) ly65) rfl (Nat.le_of_ble_eq_true rfl) ?_
        refine t_X11_here_R hS ?_
        refine jw_mono (jw_bind h) (fun q5 h => ?_)
        show jx_Ex _ _ _ _ [.int q5.1] (jh (jSrd S (.ref 77)) q5.2) _
        refine xo_9 ?_
        refine xo_62 (t := jm_b227_91) rfl (fun hc6 => ?_) (fun hc6 => ?_)
        · replace h := jw_pos hc6 h
          refine xo_0 rfl ?_
          replace h := jw_some h
          exact xo_69 h
        · replace h := jw_neg hc6 h
          exact t_X11_product_R_b31 hS hrec_X11_thing_R ih h
theorem t_X11_product_R {S : jS} (hS : jMok S) {d : Nat} {Q : Option Value → jx_H → Prop} {rec : Nat → List Int32 → jT → Option (Int32 × jT)} (hrec_X11_thing_R : ∀ {x1 : Int32} {σ : jT} {Q : Option Value → jx_H → Prop}, jw (rec 2 [x1] σ) (fun q => Q (some (.int q.1)) (jh (jSrd S (.ref 77)) q.2)) → jx_Sp (d + 3) 229 [.ref 65, .int x1] (jh (jSrd S (.ref 77)) σ) Q) {x1 : Int32} {σ : jT} (h : jw (f_X11_product_R rec x1 σ) (fun q => Q (some (.int q.1)) (jh (jSrd S (.ref 77)) q.2))) : jx_Sp (d + 4) 227 [.ref 65, .int x1] (jh (jSrd S (.ref 77)) σ) Q := by
  refine ⟨jm_i227, jm_at227, rfl, rfl, ?_⟩
  show jx_Ex _ jm_l227 jm_b227_0 [.ref 65, .int x1, .retAddr 0, .retAddr 0, .retAddr 0] [] _ _
  unfold f_X11_product_R at h
  refine xo_2 rfl ?_
  refine xo_0 rfl ?_
  refine xo_49 (st' := []) rfl rfl (xm_ly (jSrd_ok hS (.ref 77)) ly65) rfl (Nat.le_of_ble_eq_true rfl) ?_
  refine hrec_X11_thing_R ?_
  refine jw_mono (jw_bind h) (fun q1 h => ?_)
  show jx_Ex _ _ _ _ [.int q1.1] (jh (jSrd S (.ref 77)) q1.2) _
  refine xo_4 (ls' := [.ref 65, .int x1, .int q1.1, .retAddr 0, .retAddr 0]) rfl ?_
  exact t_X11_product_R_b6 hS hrec_X11_thing_R 1000 h
/-- OfDifferentMindsModel.digit, at ['m', 'int', 'int'] R -/
def f_X11_digit_R (x1 : Int32) (x2 : Int32) (σ : jT) : Option (Int32 × jT) :=
  (f_X11_fine σ).bind fun q1 =>
  if ¬ q1.1 = 0 then
    (f_X11_here_R q1.2).bind fun q3 =>
    (f_X11_in q3.1 (48 + x1) (48 + x2) q3.2).bind fun q4 =>
    if ¬ q4.1 = 0 then
      if jx_in (((q4.2.1 4176) + 1) - 1) 40 then
      some (((q4.2.2 77 (((q4.2.1 4176) + 1) - 1).toNatClampNeg) - 48), (gs q4.2 4176 ((q4.2.1 4176) + 1)))
      else none
    else
      (f_X11_fault (q4.2.1 4176) q4.2).bind fun q7 =>
      some (0, q7.2)
  else
    some (0, q1.2)
theorem t_X11_digit_R {S : jS} (hS : jMok S) {d : Nat} {Q : Option Value → jx_H → Prop} {x1 : Int32} {x2 : Int32} {σ : jT} (h : jw (f_X11_digit_R x1 x2 σ) (fun q => Q (some (.int q.1)) (jh (jSrd S (.ref 77)) q.2))) : jx_Sp (d + 2) 219 [.ref 65, .int x1, .int x2] (jh (jSrd S (.ref 77)) σ) Q := by
  refine ⟨jm_i219, jm_at219, rfl, rfl, ?_⟩
  show jx_Ex _ jm_l219 jm_b219_0 [.ref 65, .int x1, .int x2] [] _ _
  unfold f_X11_digit_R at h
  refine xo_2 rfl ?_
  refine xo_49 (st' := []) rfl rfl (xm_ly (jSrd_ok hS (.ref 77)) ly65) rfl (Nat.le_of_ble_eq_true rfl) ?_
  refine t_X11_fine hS ?_
  refine jw_mono (jw_bind h) (fun q1 h => ?_)
  show jx_Ex _ _ _ _ [.int q1.1] (jh (jSrd S (.ref 77)) q1.2) _
  refine xo_56 (t := jm_b219_9) rfl (fun hc2 => ?_) (fun hc2 => ?_)
  · replace h := jw_pos hc2 h
    refine xo_2 rfl ?_
    refine xo_49 (st' := []) rfl rfl (xm_ly (jSrd_ok hS (.ref 77)) ly65) rfl (Nat.le_of_ble_eq_true rfl) ?_
    refine t_X11_here_R hS ?_
    refine jw_mono (jw_bind h) (fun q3 h => ?_)
    show jx_Ex _ _ _ _ [.int q3.1] (jh (jSrd S (.ref 77)) q3.2) _
    refine xo_9 ?_
    refine xo_0 rfl ?_
    refine xo_14 ?_
    refine xo_9 ?_
    refine xo_0 rfl ?_
    refine xo_14 ?_
    refine xo_50 (st' := []) rfl rfl rfl (Nat.le_of_ble_eq_true rfl) ?_
    refine t_X11_in hS ?_
    refine jw_mono (jw_bind h) (fun q4 h => ?_)
    show jx_Ex _ _ _ _ [.int q4.1] (jh (jSrd S (.ref 77)) q4.2) _
    refine xo_56 (t := jm_b219_37) rfl (fun hc5 => ?_) (fun hc5 => ?_)
    · replace h := jw_pos hc5 h
      refine xo_2 rfl ?_
      refine xo_28r ?_
      refine xm_32 (i := 4176) (v := (q4.2.1 4176)) (jSrd_ok hS (.ref 77)) ly65 rfl ⟨Nat.le_of_ble_eq_true rfl, Nat.le_of_ble_eq_true rfl⟩ rfl ?_
      refine xo_8 ?_
      refine xo_14 ?_
      refine xm_34 (i := 4176) (jSrd_ok hS (.ref 77)) ly65 rfl ⟨Nat.le_of_ble_eq_true rfl, Nat.le_of_ble_eq_true rfl⟩ ?_
      refine xo_2 rfl ?_
      refine xm_33 (i := 4173) (q := 77) (jSrd_ok hS (.ref 77)) ly65 rfl (jSrd_rd _) ?_
      refine xo_2 rfl ?_
      refine xm_32 (i := 4176) (v := ((q4.2.1 4176) + 1)) (jSrd_ok hS (.ref 77)) ly65 rfl ⟨Nat.le_of_ble_eq_true rfl, Nat.le_of_ble_eq_true rfl⟩ rfl ?_
      refine xo_8 ?_
      refine xo_15 ?_
      obtain ⟨hi6, h⟩ := jw_chk h
      refine xm_39 (j := (((q4.2.1 4176) + 1) - 1).toNatClampNeg) (v := (q4.2.2 77 (((q4.2.1 4176) + 1) - 1).toNatClampNeg)) (jSrd_ok hS (.ref 77)) (Or.inl ly77) ⟨Nat.le_of_ble_eq_true rfl, Nat.le_of_ble_eq_true rfl⟩ hi6 rfl rfl ?_
      refine xo_9 ?_
      refine xo_15 ?_
      replace h := jw_some h
      exact xo_69 h
    · replace h := jw_neg hc5 h
      refine xo_2 rfl ?_
      refine xo_2 rfl ?_
      refine xm_32 (i := 4176) (v := (q4.2.1 4176)) (jSrd_ok hS (.ref 77)) ly65 rfl ⟨Nat.le_of_ble_eq_true rfl, Nat.le_of_ble_eq_true rfl⟩ rfl ?_
      refine xo_49 (st' := []) rfl rfl (xm_ly (jSrd_ok hS (.ref 77)) ly65) rfl (Nat.le_of_ble_eq_true rfl) ?_
      refine t_X11_fault hS ?_
      refine jw_mono (jw_bind h) (fun q7 h => ?_)
      show jx_Ex _ _ _ _ [] (jh (jSrd S (.ref 77)) q7.2) _
      refine xo_8 ?_
      replace h := jw_some h
      exact xo_69 h
  · replace h := jw_neg hc2 h
    refine xo_8 ?_
    replace h := jw_some h
    exact xo_69 h
/-- OfDifferentMindsModel.number, at ['m', 'int'] R -/
def f_X11_number_R_b10 : Nat → Int32 → Int32 → Int32 → jT → Option (Int32 × jT)
  | 0, _, _, _, _ => none
  | n + 1, x1, x2, x3, σ =>
    if x1 ≤ x3 then
      some (x2, σ)
    else
      (f_X11_fine σ).bind fun q2 =>
      if q2.1 = 0 then
        some (x2, q2.2)
      else
        (f_X11_here_R q2.2).bind fun q4 =>
        (f_X11_in q4.1 48 57 q4.2).bind fun q5 =>
        if q5.1 = 0 then
          some (x2, q5.2)
        else
          (f_X11_digit_R 0 9 q5.2).bind fun q7 =>
          f_X11_number_R_b10 n x1 ((10 * x2) + q7.1) (x3 + 1) q7.2
def f_X11_number_R (x1 : Int32) (σ : jT) : Option (Int32 × jT) :=
  (f_X11_digit_R 0 9 σ).bind fun q1 =>
  f_X11_number_R_b10 1000 x1 q1.1 1 q1.2
theorem t_X11_number_R_b10 {S : jS} (hS : jMok S) {d : Nat} {Q : Option Value → jx_H → Prop} : ∀ (n : Nat) {x1 : Int32} {x2 : Int32} {x3 : Int32} {σ : jT}, jw (f_X11_number_R_b10 n x1 x2 x3 σ) (fun q => Q (some (.int q.1)) (jh (jSrd S (.ref 77)) q.2)) → jx_Ex (d + 3) jm_l220 jm_b220_10 [.ref 65, .int x1, .int x2, .int x3] [] (jh (jSrd S (.ref 77)) σ) Q := by
  intro n
  induction n with
  | zero => intro x1 x2 x3 σ h; exact jw_none h
  | succ n ih =>
    intro x1 x2 x3 σ h
    rw [f_X11_number_R_b10] at h
    refine xo_0 rfl ?_
    refine xo_0 rfl ?_
    refine xo_64 (t := jm_b220_55) rfl (fun hc1 => ?_) (fun hc1 => ?_)
    · replace h := jw_pos hc1 h
      refine xo_0 rfl ?_
      replace h := jw_some h
      exact xo_69 h
    · replace h := jw_neg hc1 h
      refine xo_2 rfl ?_
      refine xo_49 (st' := []) rfl rfl (xm_ly (jSrd_ok hS (.ref 77)) ly65) rfl (Nat.le_of_ble_eq_true rfl) ?_
      refine t_X11_fine hS ?_
      refine jw_mono (jw_bind h) (fun q2 h => ?_)
      show jx_Ex _ _ _ _ [.int q2.1] (jh (jSrd S (.ref 77)) q2.2) _
      refine xo_55 (t := jm_b220_55) rfl (fun hc3 => ?_) (fun hc3 => ?_)
      · replace h := jw_pos hc3 h
        refine xo_0 rfl ?_
        replace h := jw_some h
        exact xo_69 h
      · replace h := jw_neg hc3 h
        refine xo_2 rfl ?_
        refine xo_49 (st' := []) rfl rfl (xm_ly (jSrd_ok hS (.ref 77)) ly65) rfl (Nat.le_of_ble_eq_true rfl) ?_
        refine t_X11_here_R hS ?_
        refine jw_mono (jw_bind h) (fun q4 h => ?_)
        show jx_Ex _ _ _ _ [.int q4.1] (jh (jSrd S (.ref 77)) q4.2) _
        refine xo_9 ?_
        refine xo_9 ?_
        refine xo_50 (st' := []) rfl rfl rfl (Nat.le_of_ble_eq_true rfl) ?_
        refine t_X11_in hS ?_
        refine jw_mono (jw_bind h) (fun q5 h => ?_)
        show jx_Ex _ _ _ _ [.int q5.1] (jh (jSrd S (.ref 77)) q5.2) _
        refine xo_55 (t := jm_b220_55) rfl (fun hc6 => ?_) (fun hc6 => ?_)
        · replace h := jw_pos hc6 h
          refine xo_0 rfl ?_
          replace h := jw_some h
          exact xo_69 h
        · replace h := jw_neg hc6 h
          refine xo_9 ?_
          refine xo_0 rfl ?_
          refine xo_16 ?_
          refine xo_2 rfl ?_
          refine xo_8 ?_
          refine xo_9 ?_
          refine xo_49 (st' := [.int (10 * x2)]) rfl rfl (xm_ly (jSrd_ok hS (.ref 77)) ly65) rfl (Nat.le_of_ble_eq_true rfl) ?_
          refine t_X11_digit_R hS ?_
          refine jw_mono (jw_bind h) (fun q7 h => ?_)
          show jx_Ex _ _ _ _ [.int q7.1, .int (10 * x2)] (jh (jSrd S (.ref 77)) q7.2) _
          refine xo_14 ?_
          refine xo_4 (ls' := [.ref 65, .int x1, .int ((10 * x2) + q7.1), .int x3]) rfl ?_
          refine xo_13 (ls' := [.ref 65, .int x1, .int ((10 * x2) + q7.1), .int (x3 + 1)]) rfl rfl ?_
          refine xo_54 (t := jm_b220_10) rfl ?_
          exact ih h
theorem t_X11_number_R {S : jS} (hS : jMok S) {d : Nat} {Q : Option Value → jx_H → Prop} {x1 : Int32} {σ : jT} (h : jw (f_X11_number_R x1 σ) (fun q => Q (some (.int q.1)) (jh (jSrd S (.ref 77)) q.2))) : jx_Sp (d + 3) 220 [.ref 65, .int x1] (jh (jSrd S (.ref 77)) σ) Q := by
  refine ⟨jm_i220, jm_at220, rfl, rfl, ?_⟩
  show jx_Ex _ jm_l220 jm_b220_0 [.ref 65, .int x1, .retAddr 0, .retAddr 0] [] _ _
  unfold f_X11_number_R at h
  refine xo_2 rfl ?_
  refine xo_8 ?_
  refine xo_9 ?_
  refine xo_49 (st' := []) rfl rfl (xm_ly (jSrd_ok hS (.ref 77)) ly65) rfl (Nat.le_of_ble_eq_true rfl) ?_
  refine t_X11_digit_R hS ?_
  refine jw_mono (jw_bind h) (fun q1 h => ?_)
  show jx_Ex _ _ _ _ [.int q1.1] (jh (jSrd S (.ref 77)) q1.2) _
  refine xo_4 (ls' := [.ref 65, .int x1, .int q1.1, .retAddr 0]) rfl ?_
  refine xo_8 ?_
  refine xo_4 (ls' := [.ref 65, .int x1, .int q1.1, .int 1]) rfl ?_
  exact t_X11_number_R_b10 hS 1000 h
/-- OfDifferentMindsModel.need, at ['m', 'int'] R -/
def f_X11_need_R (x1 : Int32) (σ : jT) : Option (Int32 × jT) :=
  (f_X11_passes_R x1 σ).bind fun q1 =>
  if ¬ q1.1 = 0 then
    some (0, q1.2)
  else
    (f_X11_fault (q1.2.1 4176) q1.2).bind fun q3 =>
    some (0, q3.2)
theorem t_X11_need_R {S : jS} (hS : jMok S) {d : Nat} {Q : Option Value → jx_H → Prop} {x1 : Int32} {σ : jT} (h : jw (f_X11_need_R x1 σ) (fun q => Q none (jh (jSrd S (.ref 77)) q.2))) : jx_Sp (d + 2) 218 [.ref 65, .int x1] (jh (jSrd S (.ref 77)) σ) Q := by
  refine ⟨jm_i218, jm_at218, rfl, rfl, ?_⟩
  show jx_Ex _ jm_l218 jm_b218_0 [.ref 65, .int x1] [] _ _
  unfold f_X11_need_R at h
  refine xo_2 rfl ?_
  refine xo_0 rfl ?_
  refine xo_49 (st' := []) rfl rfl (xm_ly (jSrd_ok hS (.ref 77)) ly65) rfl (Nat.le_of_ble_eq_true rfl) ?_
  refine t_X11_passes_R hS ?_
  refine jw_mono (jw_bind h) (fun q1 h => ?_)
  show jx_Ex _ _ _ _ [.int q1.1] (jh (jSrd S (.ref 77)) q1.2) _
  refine xo_56 (t := jm_b218_16) rfl (fun hc2 => ?_) (fun hc2 => ?_)
  · replace h := jw_pos hc2 h
    replace h := jw_some h
    exact xo_71 h
  · replace h := jw_neg hc2 h
    refine xo_2 rfl ?_
    refine xo_2 rfl ?_
    refine xm_32 (i := 4176) (v := (q1.2.1 4176)) (jSrd_ok hS (.ref 77)) ly65 rfl ⟨Nat.le_of_ble_eq_true rfl, Nat.le_of_ble_eq_true rfl⟩ rfl ?_
    refine xo_49 (st' := []) rfl rfl (xm_ly (jSrd_ok hS (.ref 77)) ly65) rfl (Nat.le_of_ble_eq_true rfl) ?_
    refine t_X11_fault hS ?_
    refine jw_mono (jw_bind h) (fun q3 h => ?_)
    show jx_Ex _ _ _ _ [] (jh (jSrd S (.ref 77)) q3.2) _
    replace h := jw_some h
    exact xo_71 h
/-- OfDifferentMindsModel.thing, at ['m', 'int'] R -/
def f_X11_thing_R_b67 (rec : Nat → List Int32 → jT → Option (Int32 × jT)) (x2 : Int32) (σ : jT) : Option (Int32 × jT) :=
  (f_X11_in x2 48 57 σ).bind fun q1 =>
  if q1.1 = 0 then
    (f_X11_letterOf x2 q1.2).bind fun q3 =>
    if ¬ q3.1 = (-1) then
      if (q3.2.1 4185) = 0 then
        some (0, (gs q3.2 4176 ((q3.2.1 4176) + 1)))
      else
        (f_X11_letterOf x2 (gs q3.2 4176 ((q3.2.1 4176) + 1))).bind fun q6 =>
        if jx_in q6.1 7 then
        some ((q6.2.2 78 q6.1.toNatClampNeg), q6.2)
        else none
    else
      (f_X11_fault (q3.2.1 4176) q3.2).bind fun q8 =>
      some (0, q8.2)
  else
    (f_X11_number_R 3 q1.2).bind fun q9 =>
    some (q9.1, q9.2)
def f_X11_thing_R (rec : Nat → List Int32 → jT → Option (Int32 × jT)) (x1 : Int32) (σ : jT) : Option (Int32 × jT) :=
  (f_X11_passes_R 45 σ).bind fun q1 =>
  if q1.1 = 0 then
    (f_X11_fine q1.2).bind fun q3 =>
    if ¬ q3.1 = 0 then
      (f_X11_here_R q3.2).bind fun q5 =>
      if ¬ q5.1 = 40 then
        f_X11_thing_R_b67 rec q5.1 q5.2
      else
        if 4 ≤ x1 then
          f_X11_thing_R_b67 rec q5.1 q5.2
        else
          (rec 3 [(x1 + 1)] (gs q5.2 4176 ((q5.2.1 4176) + 1))).bind fun q8 =>
          (f_X11_need_R 41 q8.2).bind fun q9 =>
          some (q8.1, q9.2)
    else
      some (0, q3.2)
  else
    (rec 2 [x1] q1.2).bind fun q10 =>
    some ((-q10.1), q10.2)
theorem t_X11_thing_R_b67 {S : jS} (hS : jMok S) {d : Nat} {Q : Option Value → jx_H → Prop} {rec : Nat → List Int32 → jT → Option (Int32 × jT)} (hrec_X11_held_R : ∀ {x1 : Int32} {σ : jT} {Q : Option Value → jx_H → Prop}, jw (rec 3 [x1] σ) (fun q => Q (some (.int q.1)) (jh (jSrd S (.ref 77)) q.2)) → jx_Sp (d + 3) 225 [.ref 65, .int x1] (jh (jSrd S (.ref 77)) σ) Q) (hrec_X11_thing_R : ∀ {x1 : Int32} {σ : jT} {Q : Option Value → jx_H → Prop}, jw (rec 2 [x1] σ) (fun q => Q (some (.int q.1)) (jh (jSrd S (.ref 77)) q.2)) → jx_Sp (d + 3) 229 [.ref 65, .int x1] (jh (jSrd S (.ref 77)) σ) Q) {x2 : Int32} {w1 : Value} {w3 : Value} {σ : jT} (h : jw (f_X11_thing_R_b67 rec x2 σ) (fun q => Q (some (.int q.1)) (jh (jSrd S (.ref 77)) q.2))) : jx_Ex (d + 4) jm_l229 jm_b229_67 [.ref 65, w1, .int x2, w3] [] (jh (jSrd S (.ref 77)) σ) Q := by
  unfold f_X11_thing_R_b67 at h
  refine xo_0 rfl ?_
  refine xo_9 ?_
  refine xo_9 ?_
  refine xo_50 (st' := []) rfl rfl rfl (Nat.le_of_ble_eq_true rfl) ?_
  refine t_X11_in hS ?_
  refine jw_mono (jw_bind h) (fun q1 h => ?_)
  show jx_Ex _ _ _ _ [.int q1.1] (jh (jSrd S (.ref 77)) q1.2) _
  refine xo_55 (t := jm_b229_84) rfl (fun hc2 => ?_) (fun hc2 => ?_)
  · replace h := jw_pos hc2 h
    refine xo_0 rfl ?_
    refine xo_50 (st' := []) rfl rfl rfl (Nat.le_of_ble_eq_true rfl) ?_
    refine t_X11_letterOf hS ?_
    refine jw_mono (jw_bind h) (fun q3 h => ?_)
    show jx_Ex _ _ _ _ [.int q3.1] (jh (jSrd S (.ref 77)) q3.2) _
    refine xo_8 ?_
    refine xo_62 (t := jm_b229_102) rfl (fun hc4 => ?_) (fun hc4 => ?_)
    · replace h := jw_pos hc4 h
      refine xo_2 rfl ?_
      refine xo_28r ?_
      refine xm_32 (i := 4176) (v := (q3.2.1 4176)) (jSrd_ok hS (.ref 77)) ly65 rfl ⟨Nat.le_of_ble_eq_true rfl, Nat.le_of_ble_eq_true rfl⟩ rfl ?_
      refine xo_8 ?_
      refine xo_14 ?_
      refine xm_34 (i := 4176) (jSrd_ok hS (.ref 77)) ly65 rfl ⟨Nat.le_of_ble_eq_true rfl, Nat.le_of_ble_eq_true rfl⟩ ?_
      refine xo_2 rfl ?_
      refine xm_32 (i := 4185) (v := (q3.2.1 4185)) (jSrd_ok hS (.ref 77)) ly65 rfl ⟨Nat.le_of_ble_eq_true rfl, Nat.le_of_ble_eq_true rfl⟩ rfl ?_
      refine xo_55 (t := jm_b229_131) rfl (fun hc5 => ?_) (fun hc5 => ?_)
      · replace h := jw_pos hc5 h
        refine xo_8 ?_
        replace h := jw_some h
        exact xo_69 h
      · replace h := jw_neg hc5 h
        refine xo_2 rfl ?_
        refine xm_33 (i := 4186) (q := 78) (jSrd_ok hS (.ref 77)) ly65 rfl (xm_P (jSrd_ok hS (.ref 77)) (by decide)) ?_
        refine xo_0 rfl ?_
        refine xo_50 (st' := [.ref 78]) rfl rfl rfl (Nat.le_of_ble_eq_true rfl) ?_
        refine t_X11_letterOf hS ?_
        refine jw_mono (jw_bind h) (fun q6 h => ?_)
        show jx_Ex _ _ _ _ [.int q6.1, .ref 78] (jh (jSrd S (.ref 77)) q6.2) _
        obtain ⟨hi7, h⟩ := jw_chk h
        refine xm_38 (j := q6.1.toNatClampNeg) (v := (q6.2.2 78 q6.1.toNatClampNeg)) (jSrd_ok hS (.ref 77)) ly78 ⟨Nat.le_of_ble_eq_true rfl, Nat.le_of_ble_eq_true rfl⟩ hi7 rfl rfl ?_
        refine xo_54 (t := jm_b229_132) rfl ?_
        replace h := jw_some h
        exact xo_69 h
    · replace h := jw_neg hc4 h
      refine xo_2 rfl ?_
      refine xo_2 rfl ?_
      refine xm_32 (i := 4176) (v := (q3.2.1 4176)) (jSrd_ok hS (.ref 77)) ly65 rfl ⟨Nat.le_of_ble_eq_true rfl, Nat.le_of_ble_eq_true rfl⟩ rfl ?_
      refine xo_49 (st' := []) rfl rfl (xm_ly (jSrd_ok hS (.ref 77)) ly65) rfl (Nat.le_of_ble_eq_true rfl) ?_
      refine t_X11_fault hS ?_
      refine jw_mono (jw_bind h) (fun q8 h => ?_)
      show jx_Ex _ _ _ _ [] (jh (jSrd S (.ref 77)) q8.2) _
      refine xo_8 ?_
      replace h := jw_some h
      exact xo_69 h
  · replace h := jw_neg hc2 h
    refine xo_2 rfl ?_
    refine xo_8 ?_
    refine xo_49 (st' := []) rfl rfl (xm_ly (jSrd_ok hS (.ref 77)) ly65) rfl (Nat.le_of_ble_eq_true rfl) ?_
    refine t_X11_number_R hS ?_
    refine jw_mono (jw_bind h) (fun q9 h => ?_)
    show jx_Ex _ _ _ _ [.int q9.1] (jh (jSrd S (.ref 77)) q9.2) _
    replace h := jw_some h
    exact xo_69 h
theorem t_X11_thing_R {S : jS} (hS : jMok S) {d : Nat} {Q : Option Value → jx_H → Prop} {rec : Nat → List Int32 → jT → Option (Int32 × jT)} (hrec_X11_held_R : ∀ {x1 : Int32} {σ : jT} {Q : Option Value → jx_H → Prop}, jw (rec 3 [x1] σ) (fun q => Q (some (.int q.1)) (jh (jSrd S (.ref 77)) q.2)) → jx_Sp (d + 3) 225 [.ref 65, .int x1] (jh (jSrd S (.ref 77)) σ) Q) (hrec_X11_thing_R : ∀ {x1 : Int32} {σ : jT} {Q : Option Value → jx_H → Prop}, jw (rec 2 [x1] σ) (fun q => Q (some (.int q.1)) (jh (jSrd S (.ref 77)) q.2)) → jx_Sp (d + 3) 229 [.ref 65, .int x1] (jh (jSrd S (.ref 77)) σ) Q) {x1 : Int32} {σ : jT} (h : jw (f_X11_thing_R rec x1 σ) (fun q => Q (some (.int q.1)) (jh (jSrd S (.ref 77)) q.2))) : jx_Sp (d + 4) 229 [.ref 65, .int x1] (jh (jSrd S (.ref 77)) σ) Q := by
  refine ⟨jm_i229, jm_at229, rfl, rfl, ?_⟩
  show jx_Ex _ jm_l229 jm_b229_0 [.ref 65, .int x1, .retAddr 0, .retAddr 0] [] _ _
  unfold f_X11_thing_R at h
  refine xo_2 rfl ?_
  refine xo_9 ?_
  refine xo_49 (st' := []) rfl rfl (xm_ly (jSrd_ok hS (.ref 77)) ly65) rfl (Nat.le_of_ble_eq_true rfl) ?_
  refine t_X11_passes_R hS ?_
  refine jw_mono (jw_bind h) (fun q1 h => ?_)
  show jx_Ex _ _ _ _ [.int q1.1] (jh (jSrd S (.ref 77)) q1.2) _
  refine xo_55 (t := jm_b229_16) rfl (fun hc2 => ?_) (fun hc2 => ?_)
  · replace h := jw_pos hc2 h
    refine xo_2 rfl ?_
    refine xo_49 (st' := []) rfl rfl (xm_ly (jSrd_ok hS (.ref 77)) ly65) rfl (Nat.le_of_ble_eq_true rfl) ?_
    refine t_X11_fine hS ?_
    refine jw_mono (jw_bind h) (fun q3 h => ?_)
    show jx_Ex _ _ _ _ [.int q3.1] (jh (jSrd S (.ref 77)) q3.2) _
    refine xo_56 (t := jm_b229_25) rfl (fun hc4 => ?_) (fun hc4 => ?_)
    · replace h := jw_pos hc4 h
      refine xo_2 rfl ?_
      refine xo_49 (st' := []) rfl rfl (xm_ly (jSrd_ok hS (.ref 77)) ly65) rfl (Nat.le_of_ble_eq_true rfl) ?_
      refine t_X11_here_R hS ?_
      refine jw_mono (jw_bind h) (fun q5 h => ?_)
      show jx_Ex _ _ _ _ [.int q5.1] (jh (jSrd S (.ref 77)) q5.2) _
      refine xo_4 (ls' := [.ref 65, .int x1, .int q5.1, .retAddr 0]) rfl ?_
      refine xo_0 rfl ?_
      refine xo_9 ?_
      refine xo_62 (t := jm_b229_67) rfl (fun hc6 => ?_) (fun hc6 => ?_)
      · replace h := jw_pos hc6 h
        exact t_X11_thing_R_b67 hS hrec_X11_held_R hrec_X11_thing_R h
      · replace h := jw_neg hc6 h
        refine xo_0 rfl ?_
        refine xo_8 ?_
        refine xo_64 (t := jm_b229_67) rfl (fun hc7 => ?_) (fun hc7 => ?_)
        · replace h := jw_pos hc7 h
          exact t_X11_thing_R_b67 hS hrec_X11_held_R hrec_X11_thing_R h
        · replace h := jw_neg hc7 h
          refine xo_2 rfl ?_
          refine xo_28r ?_
          refine xm_32 (i := 4176) (v := (q5.2.1 4176)) (jSrd_ok hS (.ref 77)) ly65 rfl ⟨Nat.le_of_ble_eq_true rfl, Nat.le_of_ble_eq_true rfl⟩ rfl ?_
          refine xo_8 ?_
          refine xo_14 ?_
          refine xm_34 (i := 4176) (jSrd_ok hS (.ref 77)) ly65 rfl ⟨Nat.le_of_ble_eq_true rfl, Nat.le_of_ble_eq_true rfl⟩ ?_
          refine xo_2 rfl ?_
          refine xo_0 rfl ?_
          refine xo_8 ?_
          refine xo_14 ?_
          refine xo_49 (st' := []) rfl rfl (xm_ly (jSrd_ok hS (.ref 77)) ly65) rfl (Nat.le_of_ble_eq_true rfl) ?_
          refine hrec_X11_held_R ?_
          refine jw_mono (jw_bind h) (fun q8 h => ?_)
          show jx_Ex _ _ _ _ [.int q8.1] (jh (jSrd S (.ref 77)) q8.2) _
          refine xo_4 (ls' := [.ref 65, .int x1, .int q5.1, .int q8.1]) rfl ?_
          refine xo_2 rfl ?_
          refine xo_9 ?_
          refine xo_49 (st' := []) rfl rfl (xm_ly (jSrd_ok hS (.ref 77)) ly65) rfl (Nat.le_of_ble_eq_true rfl) ?_
          refine t_X11_need_R hS ?_
          refine jw_mono (jw_bind h) (fun q9 h => ?_)
          show jx_Ex _ _ _ _ [] (jh (jSrd S (.ref 77)) q9.2) _
          refine xo_0 rfl ?_
          replace h := jw_some h
          exact xo_69 h
    · replace h := jw_neg hc4 h
      refine xo_8 ?_
      replace h := jw_some h
      exact xo_69 h
  · replace h := jw_neg hc2 h
    refine xo_2 rfl ?_
    refine xo_0 rfl ?_
    refine xo_49 (st' := []) rfl rfl (xm_ly (jSrd_ok hS (.ref 77)) ly65) rfl (Nat.le_of_ble_eq_true rfl) ?_
    refine hrec_X11_thing_R ?_
    refine jw_mono (jw_bind h) (fun q10 h => ?_)
    show jx_Ex _ _ _ _ [.int q10.1] (jh (jSrd S (.ref 77)) q10.2) _
    refine xo_19 ?_
    replace h := jw_some h
    exact xo_69 h
def f_rec3 : Nat → Nat → List Int32 → jT → Option (Int32 × jT)
  | 0, _, _, _ => none
  | n + 1, 0, [x1], σ => f_X11_sum_R (f_rec3 n) x1 σ
  | n + 1, 1, [x1], σ => f_X11_product_R (f_rec3 n) x1 σ
  | n + 1, 2, [x1], σ => f_X11_thing_R (f_rec3 n) x1 σ
  | n + 1, 3, [x1], σ => f_X11_held_R (f_rec3 n) x1 σ
  | _ + 1, _, _, _ => none
theorem t_rec3 {S : jS} (hS : jMok S) : ∀ (n : Nat), (∀ {x1 : Int32} {σ : jT} {Q : Option Value → jx_H → Prop}, jw (f_rec3 n 0 [x1] σ) (fun q => Q (some (.int q.1)) (jh (jSrd S (.ref 77)) q.2)) → jx_Sp (n + 3) 226 [.ref 65, .int x1] (jh (jSrd S (.ref 77)) σ) Q) ∧ (∀ {x1 : Int32} {σ : jT} {Q : Option Value → jx_H → Prop}, jw (f_rec3 n 1 [x1] σ) (fun q => Q (some (.int q.1)) (jh (jSrd S (.ref 77)) q.2)) → jx_Sp (n + 3) 227 [.ref 65, .int x1] (jh (jSrd S (.ref 77)) σ) Q) ∧ (∀ {x1 : Int32} {σ : jT} {Q : Option Value → jx_H → Prop}, jw (f_rec3 n 2 [x1] σ) (fun q => Q (some (.int q.1)) (jh (jSrd S (.ref 77)) q.2)) → jx_Sp (n + 3) 229 [.ref 65, .int x1] (jh (jSrd S (.ref 77)) σ) Q) ∧ (∀ {x1 : Int32} {σ : jT} {Q : Option Value → jx_H → Prop}, jw (f_rec3 n 3 [x1] σ) (fun q => Q (some (.int q.1)) (jh (jSrd S (.ref 77)) q.2)) → jx_Sp (n + 3) 225 [.ref 65, .int x1] (jh (jSrd S (.ref 77)) σ) Q) := by
  intro n
  induction n with
  | zero => exact ⟨fun h => jw_none h, fun h => jw_none h, fun h => jw_none h, fun h => jw_none h⟩
  | succ n ih =>
    obtain ⟨hr0, hr1, hr2, hr3⟩ := ih
    have g0 : (∀ {x1 : Int32} {σ : jT} {Q : Option Value → jx_H → Prop}, jw (f_rec3 (n + 1) 0 [x1] σ) (fun q => Q (some (.int q.1)) (jh (jSrd S (.ref 77)) q.2)) → jx_Sp (n + 1 + 3) 226 [.ref 65, .int x1] (jh (jSrd S (.ref 77)) σ) Q) := by
      intro x1 σ Q h
      rw [show n + 1 + 3 = n + 4 by omega]
      exact t_X11_sum_R hS hr1 h
    have g1 : (∀ {x1 : Int32} {σ : jT} {Q : Option Value → jx_H → Prop}, jw (f_rec3 (n + 1) 1 [x1] σ) (fun q => Q (some (.int q.1)) (jh (jSrd S (.ref 77)) q.2)) → jx_Sp (n + 1 + 3) 227 [.ref 65, .int x1] (jh (jSrd S (.ref 77)) σ) Q) := by
      intro x1 σ Q h
      rw [show n + 1 + 3 = n + 4 by omega]
      exact t_X11_product_R hS hr2 h
    have g2 : (∀ {x1 : Int32} {σ : jT} {Q : Option Value → jx_H → Prop}, jw (f_rec3 (n + 1) 2 [x1] σ) (fun q => Q (some (.int q.1)) (jh (jSrd S (.ref 77)) q.2)) → jx_Sp (n + 1 + 3) 229 [.ref 65, .int x1] (jh (jSrd S (.ref 77)) σ) Q) := by
      intro x1 σ Q h
      rw [show n + 1 + 3 = n + 4 by omega]
      exact t_X11_thing_R hS hr3 hr2 h
    have g3 : (∀ {x1 : Int32} {σ : jT} {Q : Option Value → jx_H → Prop}, jw (f_rec3 (n + 1) 3 [x1] σ) (fun q => Q (some (.int q.1)) (jh (jSrd S (.ref 77)) q.2)) → jx_Sp (n + 1 + 3) 225 [.ref 65, .int x1] (jh (jSrd S (.ref 77)) σ) Q) := by
      intro x1 σ Q h
      rw [show n + 1 + 3 = n + 4 by omega]
      exact t_X11_held_R hS hr0 h
    exact ⟨g0, g1, g2, g3⟩
theorem tr_X11_sum_R {S : jS} (hS : jMok S) {d : Nat} {x1 : Int32} {σ : jT} {Q : Option Value → jx_H → Prop} (h : jw (f_rec3 100 0 [x1] σ) (fun q => Q (some (.int q.1)) (jh (jSrd S (.ref 77)) q.2))) : jx_Sp (d + 103) 226 [.ref 65, .int x1] (jh (jSrd S (.ref 77)) σ) Q := jx_Sp.mono (by omega) ((t_rec3 hS 100).1 h)
theorem tr_X11_product_R {S : jS} (hS : jMok S) {d : Nat} {x1 : Int32} {σ : jT} {Q : Option Value → jx_H → Prop} (h : jw (f_rec3 100 1 [x1] σ) (fun q => Q (some (.int q.1)) (jh (jSrd S (.ref 77)) q.2))) : jx_Sp (d + 103) 227 [.ref 65, .int x1] (jh (jSrd S (.ref 77)) σ) Q := jx_Sp.mono (by omega) ((t_rec3 hS 100).2.1 h)
theorem tr_X11_thing_R {S : jS} (hS : jMok S) {d : Nat} {x1 : Int32} {σ : jT} {Q : Option Value → jx_H → Prop} (h : jw (f_rec3 100 2 [x1] σ) (fun q => Q (some (.int q.1)) (jh (jSrd S (.ref 77)) q.2))) : jx_Sp (d + 103) 229 [.ref 65, .int x1] (jh (jSrd S (.ref 77)) σ) Q := jx_Sp.mono (by omega) ((t_rec3 hS 100).2.2.1 h)
theorem tr_X11_held_R {S : jS} (hS : jMok S) {d : Nat} {x1 : Int32} {σ : jT} {Q : Option Value → jx_H → Prop} (h : jw (f_rec3 100 3 [x1] σ) (fun q => Q (some (.int q.1)) (jh (jSrd S (.ref 77)) q.2))) : jx_Sp (d + 103) 225 [.ref 65, .int x1] (jh (jSrd S (.ref 77)) σ) Q := jx_Sp.mono (by omega) ((t_rec3 hS 100).2.2.2 h)
/-- OfDifferentMindsModel.wayBy, at ['m', 'int', 'int', 'int', 'int', 'int', 'int'] U -/
def f_X11_wayBy_b120 (x7 : Int32) (x8 : Int32) (σ : jT) : Option (Int32 × jT) :=
  if x7 = 0 then none else
  if 0 ≤ (x8 - x8 / x7 * x7) then
    some ((x8 - x8 / x7 * x7), σ)
  else
    some (((x8 - x8 / x7 * x7) + x7), σ)
def f_X11_wayBy_b25 (x1 : Int32) (x2 : Int32) (x3 : Int32) (x4 : Int32) (x5 : Int32) (x6 : Int32) (x7 : Int32) (s0 : Int32) (s1 : Int32) (σ : jT) : Option (Int32 × jT) :=
  if (σ.1 4184) ≤ 0 then
    f_X11_wayBy_b120 x7 (s1 + s0) σ
  else
    (f_X11_begin_77 (σ.1 4184) 40 (gA (gA (gA (gA (gA (gA (gA σ 78 0 x1) 78 1 x2) 78 2 x7) 78 3 x3) 78 4 x4) 78 5 x5) 78 6 x6)).bind fun q2 =>
    (f_rec3 100 3 [0] (gs q2.2 4185 1)).bind fun q3 =>
    f_X11_wayBy_b120 x7 q3.1 (gs q3.2 4185 0)
def f_X11_wayBy (x1 : Int32) (x2 : Int32) (x3 : Int32) (x4 : Int32) (x5 : Int32) (x6 : Int32) (σ : jT) : Option (Int32 × jT) :=
  if jx_in x3 10 then
  if ¬ (σ.2 67 x3.toNatClampNeg) = 2 then
    f_X11_wayBy_b25 x1 x2 x3 x4 x5 x6 (σ.2 67 x3.toNatClampNeg) 0 (((σ.2 67 x3.toNatClampNeg) - x1) - x2) σ
  else
    f_X11_wayBy_b25 x1 x2 x3 x4 x5 x6 (σ.2 67 x3.toNatClampNeg) x1 (((σ.2 67 x3.toNatClampNeg) - x1) - x2) σ
  else none
theorem t_X11_wayBy_b120 {S : jS} (hS : jMok S) {d : Nat} {Q : Option Value → jx_H → Prop} {rd : Value} {x7 : Int32} {x8 : Int32} {w0 : Value} {w1 : Value} {w2 : Value} {w3 : Value} {w4 : Value} {w5 : Value} {w6 : Value} {w9 : Value} {σ : jT} (h : jw (f_X11_wayBy_b120 x7 x8 σ) (fun q => ∀ rd : Value, Q (some (.int q.1)) (jh (jSrd S rd) q.2))) : jx_Ex (d + 104) jm_l231 jm_b231_120 [w0, w1, w2, w3, w4, w5, w6, .int x7, .int x8, w9] [] (jh (jSrd S rd) σ) Q := by
  unfold f_X11_wayBy_b120 at h
  refine xo_1 rfl ?_
  refine xo_1 rfl ?_
  obtain ⟨hy1, h⟩ := jw_chn h
  refine xo_18 hy1 ?_
  refine xo_5 (ls' := [w0, w1, w2, w3, w4, w5, w6, .int x7, .int x8, .int (x8 - x8 / x7 * x7)]) rfl ?_
  refine xo_1 rfl ?_
  refine xo_58 (t := jm_b231_140) rfl (fun hc2 => ?_) (fun hc2 => ?_)
  · replace h := jw_pos hc2 h
    refine xo_1 rfl ?_
    replace h := jw_some h
    exact xo_69 (h rd)
  · replace h := jw_neg hc2 h
    refine xo_1 rfl ?_
    refine xo_1 rfl ?_
    refine xo_14 ?_
    refine xo_54 (t := jm_b231_142) rfl ?_
    replace h := jw_some h
    exact xo_69 (h rd)
theorem t_X11_wayBy_b25 {S : jS} (hS : jMok S) {d : Nat} {Q : Option Value → jx_H → Prop} {rd : Value} {x1 : Int32} {x2 : Int32} {x3 : Int32} {x4 : Int32} {x5 : Int32} {x6 : Int32} {x7 : Int32} {s0 : Int32} {s1 : Int32} {w8 : Value} {w9 : Value} {σ : jT} (h : jw (f_X11_wayBy_b25 x1 x2 x3 x4 x5 x6 x7 s0 s1 σ) (fun q => ∀ rd : Value, Q (some (.int q.1)) (jh (jSrd S rd) q.2))) : jx_Ex (d + 104) jm_l231 jm_b231_25 [.ref 65, .int x1, .int x2, .int x3, .int x4, .int x5, .int x6, .int x7, w8, w9] [.int s0, .int s1] (jh (jSrd S rd) σ) Q := by
  unfold f_X11_wayBy_b25 at h
  refine xo_14 ?_
  refine xo_5 (ls' := [.ref 65, .int x1, .int x2, .int x3, .int x4, .int x5, .int x6, .int x7, .int (s1 + s0), w9]) rfl ?_
  refine xo_2 rfl ?_
  refine xm_32 (i := 4184) (v := (σ.1 4184)) (jSrd_ok hS rd) ly65 rfl ⟨Nat.le_of_ble_eq_true rfl, Nat.le_of_ble_eq_true rfl⟩ rfl ?_
  refine xo_60 (t := jm_b231_120) rfl (fun hc1 => ?_) (fun hc1 => ?_)
  · replace h := jw_pos hc1 h
    exact t_X11_wayBy_b120 hS h
  · replace h := jw_neg hc1 h
    refine xo_2 rfl ?_
    refine xm_33 (i := 4186) (q := 78) (jSrd_ok hS rd) ly65 rfl (xm_P (jSrd_ok hS rd) (by decide)) ?_
    refine xo_8 ?_
    refine xo_0 rfl ?_
    refine xm_41 (j := 0) (jSrd_ok hS rd) ly78 ⟨Nat.le_of_ble_eq_true rfl, Nat.le_of_ble_eq_true rfl⟩ (by decide) (by decide) ?_
    refine xo_2 rfl ?_
    refine xm_33 (i := 4186) (q := 78) (jSrd_ok hS rd) ly65 rfl (xm_P (jSrd_ok hS rd) (by decide)) ?_
    refine xo_8 ?_
    refine xo_0 rfl ?_
    refine xm_41 (j := 1) (jSrd_ok hS rd) ly78 ⟨Nat.le_of_ble_eq_true rfl, Nat.le_of_ble_eq_true rfl⟩ (by decide) (by decide) ?_
    refine xo_2 rfl ?_
    refine xm_33 (i := 4186) (q := 78) (jSrd_ok hS rd) ly65 rfl (xm_P (jSrd_ok hS rd) (by decide)) ?_
    refine xo_8 ?_
    refine xo_1 rfl ?_
    refine xm_41 (j := 2) (jSrd_ok hS rd) ly78 ⟨Nat.le_of_ble_eq_true rfl, Nat.le_of_ble_eq_true rfl⟩ (by decide) (by decide) ?_
    refine xo_2 rfl ?_
    refine xm_33 (i := 4186) (q := 78) (jSrd_ok hS rd) ly65 rfl (xm_P (jSrd_ok hS rd) (by decide)) ?_
    refine xo_8 ?_
    refine xo_0 rfl ?_
    refine xm_41 (j := 3) (jSrd_ok hS rd) ly78 ⟨Nat.le_of_ble_eq_true rfl, Nat.le_of_ble_eq_true rfl⟩ (by decide) (by decide) ?_
    refine xo_2 rfl ?_
    refine xm_33 (i := 4186) (q := 78) (jSrd_ok hS rd) ly65 rfl (xm_P (jSrd_ok hS rd) (by decide)) ?_
    refine xo_8 ?_
    refine xo_1 rfl ?_
    refine xm_41 (j := 4) (jSrd_ok hS rd) ly78 ⟨Nat.le_of_ble_eq_true rfl, Nat.le_of_ble_eq_true rfl⟩ (by decide) (by decide) ?_
    refine xo_2 rfl ?_
    refine xm_33 (i := 4186) (q := 78) (jSrd_ok hS rd) ly65 rfl (xm_P (jSrd_ok hS rd) (by decide)) ?_
    refine xo_8 ?_
    refine xo_1 rfl ?_
    refine xm_41 (j := 5) (jSrd_ok hS rd) ly78 ⟨Nat.le_of_ble_eq_true rfl, Nat.le_of_ble_eq_true rfl⟩ (by decide) (by decide) ?_
    refine xo_2 rfl ?_
    refine xm_33 (i := 4186) (q := 78) (jSrd_ok hS rd) ly65 rfl (xm_P (jSrd_ok hS rd) (by decide)) ?_
    refine xo_9 ?_
    refine xo_1 rfl ?_
    refine xm_41 (j := 6) (jSrd_ok hS rd) ly78 ⟨Nat.le_of_ble_eq_true rfl, Nat.le_of_ble_eq_true rfl⟩ (by decide) (by decide) ?_
    refine xo_2 rfl ?_
    refine xo_2 rfl ?_
    refine xm_33 (i := 4183) (q := 77) (jSrd_ok hS rd) ly65 rfl (xm_P (jSrd_ok hS rd) (by decide)) ?_
    refine xo_2 rfl ?_
    refine xm_32 (i := 4184) (v := (σ.1 4184)) (jSrd_ok hS rd) ly65 rfl ⟨Nat.le_of_ble_eq_true rfl, Nat.le_of_ble_eq_true rfl⟩ rfl ?_
    refine xo_9 ?_
    refine xo_49 (st' := []) rfl rfl (xm_ly (jSrd_ok hS rd) ly65) rfl (Nat.le_of_ble_eq_true rfl) ?_
    refine t_X11_begin_77 hS ?_
    refine jw_mono (jw_bind h) (fun q2 h => ?_)
    show jx_Ex _ _ _ _ [] (jh (jSrd S (.ref 77)) q2.2) _
    refine xo_2 rfl ?_
    refine xo_8 ?_
    refine xm_35 (i := 4185) (jSrd_ok hS (.ref 77)) ly65 rfl ⟨Nat.le_of_ble_eq_true rfl, Nat.le_of_ble_eq_true rfl⟩ (by decide) ?_
    refine xo_2 rfl ?_
    refine xo_8 ?_
    refine xo_49 (st' := []) rfl rfl (xm_ly (jSrd_ok hS (.ref 77)) ly65) rfl (Nat.le_of_ble_eq_true rfl) ?_
    refine tr_X11_held_R hS ?_
    refine jw_mono (jw_bind h) (fun q3 h => ?_)
    show jx_Ex _ _ _ _ [.int q3.1] (jh (jSrd S (.ref 77)) q3.2) _
    refine xo_5 (ls' := [.ref 65, .int x1, .int x2, .int x3, .int x4, .int x5, .int x6, .int x7, .int q3.1, w9]) rfl ?_
    refine xo_2 rfl ?_
    refine xo_8 ?_
    refine xm_35 (i := 4185) (jSrd_ok hS (.ref 77)) ly65 rfl ⟨Nat.le_of_ble_eq_true rfl, Nat.le_of_ble_eq_true rfl⟩ (by decide) ?_
    exact t_X11_wayBy_b120 hS h
theorem t_X11_wayBy {S : jS} (hS : jMok S) {d : Nat} {Q : Option Value → jx_H → Prop} {rd : Value} {x1 : Int32} {x2 : Int32} {x3 : Int32} {x4 : Int32} {x5 : Int32} {x6 : Int32} {σ : jT} (h : jw (f_X11_wayBy x1 x2 x3 x4 x5 x6 σ) (fun q => ∀ rd : Value, Q (some (.int q.1)) (jh (jSrd S rd) q.2))) : jx_Sp (d + 104) 231 [.ref 65, .int x1, .int x2, .int x3, .int x4, .int x5, .int x6] (jh (jSrd S rd) σ) Q := by
  refine ⟨jm_i231, jm_at231, rfl, rfl, ?_⟩
  show jx_Ex _ jm_l231 jm_b231_0 [.ref 65, .int x1, .int x2, .int x3, .int x4, .int x5, .int x6, .retAddr 0, .retAddr 0, .retAddr 0] [] _ _
  unfold f_X11_wayBy at h
  refine xo_2 rfl ?_
  refine xm_33 (i := 4162) (q := 67) (jSrd_ok hS rd) ly65 rfl (xm_P (jSrd_ok hS rd) (by decide)) ?_
  refine xo_0 rfl ?_
  obtain ⟨hi1, h⟩ := jw_chk h
  refine xm_38 (j := x3.toNatClampNeg) (v := (σ.2 67 x3.toNatClampNeg)) (jSrd_ok hS rd) ly67 ⟨Nat.le_of_ble_eq_true rfl, Nat.le_of_ble_eq_true rfl⟩ hi1 rfl rfl ?_
  refine xo_5 (ls' := [.ref 65, .int x1, .int x2, .int x3, .int x4, .int x5, .int x6, .int (σ.2 67 x3.toNatClampNeg), .retAddr 0, .retAddr 0]) rfl ?_
  refine xo_1 rfl ?_
  refine xo_0 rfl ?_
  refine xo_15 ?_
  refine xo_0 rfl ?_
  refine xo_15 ?_
  refine xo_1 rfl ?_
  refine xo_8 ?_
  refine xo_62 (t := jm_b231_24) rfl (fun hc2 => ?_) (fun hc2 => ?_)
  · replace h := jw_pos hc2 h
    refine xo_8 ?_
    exact t_X11_wayBy_b25 hS h
  · replace h := jw_neg hc2 h
    refine xo_0 rfl ?_
    refine xo_54 (t := jm_b231_25) rfl ?_
    exact t_X11_wayBy_b25 hS h
/-- OfDifferentMindsModel.goStep, at ['m', 'm.now', 'int', 'int'] U -/
def f_X11_goStep_66_b188 (s0 : Int32) (s1 : Int32) (σ : jT) : Option (Int32 × jT) :=
  if jx_in s1 28 then
  some (0, (gA σ 66 s1.toNatClampNeg s0))
  else none
def f_X11_goStep_66_b108 (x4 : Int32) (x5 : Int32) (s0 : Int32) (σ : jT) : Option (Int32 × jT) :=
  if jx_in (16 + s0) 28 then
  if (σ.2 66 (16 + s0).toNatClampNeg) = (-1) then
    if jx_in s0 6 then
    if jx_in (4 + s0) 28 then
    (f_X11_leftOf_66 s0 (gA (gs σ 4187 (-1)) 66 (4 + s0).toNatClampNeg (jx_min (σ.2 69 s0.toNatClampNeg) ((σ.2 66 (4 + s0).toNatClampNeg) + 1)))).bind fun q5 =>
    if q5.1 ≤ 0 then
      if ¬ s0 = x4 then
        f_X11_goStep_66_b188 x4 (16 + s0) (gs q5.2 4187 s0)
      else
        f_X11_goStep_66_b188 x5 (16 + s0) (gs q5.2 4187 s0)
    else
      some (0, q5.2)
    else none
    else none
  else
    some (0, (gs σ 4187 (-1)))
  else none
def f_X11_goStep_66 (x2 : Int32) (x3 : Int32) (σ : jT) : Option (Int32 × jT) :=
  (f_X11_leftOf_66 (σ.2 66 1) σ).bind fun q1 =>
  (f_X11_leftOf_66 (σ.2 66 2) q1.2).bind fun q2 =>
  (f_X11_wayBy x2 x3 (σ.2 66 0) (σ.2 66 3) q1.1 q2.1 q2.2).bind fun q3 =>
  if jx_in ((3 * (σ.2 66 0)) + q3.1) 30 then
  if jx_in (10 + (σ.2 66 1)) 28 then
  if jx_in (10 + (σ.2 66 2)) 28 then
  (f_X11_leftOf_66 (σ.2 66 1) (gA (gA (gA (gA q3.2 66 0 (q3.2.2 68 ((3 * (σ.2 66 0)) + q3.1).toNatClampNeg)) 66 (10 + (σ.2 66 1)).toNatClampNeg (q3.2.2 68 ((3 * (σ.2 66 0)) + q3.1).toNatClampNeg)) 66 (10 + (σ.2 66 2)).toNatClampNeg ((gA (gA q3.2 66 0 (q3.2.2 68 ((3 * (σ.2 66 0)) + q3.1).toNatClampNeg)) 66 (10 + (σ.2 66 1)).toNatClampNeg (q3.2.2 68 ((3 * (σ.2 66 0)) + q3.1).toNatClampNeg)).2 66 0)) 66 3 (((gA (gA (gA q3.2 66 0 (q3.2.2 68 ((3 * (σ.2 66 0)) + q3.1).toNatClampNeg)) 66 (10 + (σ.2 66 1)).toNatClampNeg (q3.2.2 68 ((3 * (σ.2 66 0)) + q3.1).toNatClampNeg)) 66 (10 + (σ.2 66 2)).toNatClampNeg ((gA (gA q3.2 66 0 (q3.2.2 68 ((3 * (σ.2 66 0)) + q3.1).toNatClampNeg)) 66 (10 + (σ.2 66 1)).toNatClampNeg (q3.2.2 68 ((3 * (σ.2 66 0)) + q3.1).toNatClampNeg)).2 66 0)).2 66 3) + 1))).bind fun q8 =>
  (f_X11_leftOf_66 (σ.2 66 2) q8.2).bind fun q9 =>
  if q9.1 ≤ q8.1 then
    f_X11_goStep_66_b108 (σ.2 66 1) (σ.2 66 2) (σ.2 66 2) q9.2
  else
    f_X11_goStep_66_b108 (σ.2 66 1) (σ.2 66 2) (σ.2 66 1) q9.2
  else none
  else none
  else none
theorem t_X11_goStep_66_b188 {S : jS} (hS : jMok S) {d : Nat} {Q : Option Value → jx_H → Prop} {rd : Value} {s0 : Int32} {s1 : Int32} {w0 : Value} {w1 : Value} {w2 : Value} {w3 : Value} {w4 : Value} {w5 : Value} {w6 : Value} {w7 : Value} {w8 : Value} {σ : jT} (h : jw (f_X11_goStep_66_b188 s0 s1 σ) (fun q => ∀ rd : Value, Q none (jh (jSrd S rd) q.2))) : jx_Ex (d + 105) jm_l235 jm_b235_188 [w0, w1, w2, w3, w4, w5, w6, w7, w8] [.int s0, .int s1, .ref 66] (jh (jSrd S rd) σ) Q := by
  unfold f_X11_goStep_66_b188 at h
  obtain ⟨hi1, h⟩ := jw_chk h
  refine xm_41 (j := s1.toNatClampNeg) (jSrd_ok hS rd) ly66 ⟨Nat.le_of_ble_eq_true rfl, Nat.le_of_ble_eq_true rfl⟩ hi1 rfl ?_
  replace h := jw_some h
  exact xo_71 (h rd)
theorem t_X11_goStep_66_b108 {S : jS} (hS : jMok S) {d : Nat} {Q : Option Value → jx_H → Prop} {rd : Value} {x4 : Int32} {x5 : Int32} {s0 : Int32} {w2 : Value} {w3 : Value} {w6 : Value} {w7 : Value} {w8 : Value} {σ : jT} (h : jw (f_X11_goStep_66_b108 x4 x5 s0 σ) (fun q => ∀ rd : Value, Q none (jh (jSrd S rd) q.2))) : jx_Ex (d + 105) jm_l235 jm_b235_108 [.ref 65, .ref 66, w2, w3, .int x4, .int x5, w6, w7, w8] [.int s0] (jh (jSrd S rd) σ) Q := by
  unfold f_X11_goStep_66_b108 at h
  refine xo_5 (ls' := [.ref 65, .ref 66, w2, w3, .int x4, .int x5, w6, w7, .int s0]) rfl ?_
  refine xo_2 rfl ?_
  refine xo_8 ?_
  refine xm_34 (i := 4187) (jSrd_ok hS rd) ly65 rfl ⟨Nat.le_of_ble_eq_true rfl, Nat.le_of_ble_eq_true rfl⟩ ?_
  refine xo_2 rfl ?_
  refine xo_9 ?_
  refine xo_1 rfl ?_
  refine xo_14 ?_
  obtain ⟨hi1, h⟩ := jw_chk h
  refine xm_38 (j := (16 + s0).toNatClampNeg) (v := (σ.2 66 (16 + s0).toNatClampNeg)) (jSrd_ok hS rd) ly66 ⟨Nat.le_of_ble_eq_true rfl, Nat.le_of_ble_eq_true rfl⟩ hi1 rfl rfl ?_
  refine xo_8 ?_
  refine xo_61 (t := jm_b235_127) rfl (fun hc2 => ?_) (fun hc2 => ?_)
  · replace h := jw_pos hc2 h
    refine xo_2 rfl ?_
    refine xo_8 ?_
    refine xo_1 rfl ?_
    refine xo_14 ?_
    refine xo_2 rfl ?_
    refine xm_33 (i := 4166) (q := 69) (jSrd_ok hS rd) ly65 rfl (xm_P (jSrd_ok hS rd) (by decide)) ?_
    refine xo_1 rfl ?_
    obtain ⟨hi3, h⟩ := jw_chk h
    refine xm_38 (j := s0.toNatClampNeg) (v := (σ.2 69 s0.toNatClampNeg)) (jSrd_ok hS rd) ly69 ⟨Nat.le_of_ble_eq_true rfl, Nat.le_of_ble_eq_true rfl⟩ hi3 rfl rfl ?_
    refine xo_2 rfl ?_
    refine xo_8 ?_
    refine xo_1 rfl ?_
    refine xo_14 ?_
    obtain ⟨hi4, h⟩ := jw_chk h
    refine xm_38 (j := (4 + s0).toNatClampNeg) (v := (σ.2 66 (4 + s0).toNatClampNeg)) (jSrd_ok hS rd) ly66 ⟨Nat.le_of_ble_eq_true rfl, Nat.le_of_ble_eq_true rfl⟩ hi4 rfl rfl ?_
    refine xo_8 ?_
    refine xo_14 ?_
    refine xo_73 (Nat.le_of_ble_eq_true rfl) ?_
    refine xm_41 (j := (4 + s0).toNatClampNeg) (jSrd_ok hS rd) ly66 ⟨Nat.le_of_ble_eq_true rfl, Nat.le_of_ble_eq_true rfl⟩ hi4 rfl ?_
    refine xo_2 rfl ?_
    refine xo_2 rfl ?_
    refine xo_1 rfl ?_
    refine xo_49 (st' := []) rfl rfl (xm_ly (jSrd_ok hS rd) ly65) rfl (Nat.le_of_ble_eq_true rfl) ?_
    refine t_X11_leftOf_66 hS ?_
    refine jw_mono (jw_bind h) (fun q5 h => ?_)
    show jx_Ex _ _ _ _ [.int q5.1] (jh (jSrd S rd) q5.2) _
    refine xo_60 (t := jm_b235_162) rfl (fun hc6 => ?_) (fun hc6 => ?_)
    · replace h := jw_pos hc6 h
      refine xo_2 rfl ?_
      refine xo_1 rfl ?_
      refine xm_34 (i := 4187) (jSrd_ok hS rd) ly65 rfl ⟨Nat.le_of_ble_eq_true rfl, Nat.le_of_ble_eq_true rfl⟩ ?_
      refine xo_2 rfl ?_
      refine xo_9 ?_
      refine xo_1 rfl ?_
      refine xo_14 ?_
      refine xo_1 rfl ?_
      refine xo_1 rfl ?_
      refine xo_62 (t := jm_b235_186) rfl (fun hc7 => ?_) (fun hc7 => ?_)
      · replace h := jw_pos hc7 h
        refine xo_1 rfl ?_
        exact t_X11_goStep_66_b188 hS h
      · replace h := jw_neg hc7 h
        refine xo_1 rfl ?_
        refine xo_54 (t := jm_b235_188) rfl ?_
        exact t_X11_goStep_66_b188 hS h
    · replace h := jw_neg hc6 h
      replace h := jw_some h
      exact xo_71 (h rd)
  · replace h := jw_neg hc2 h
    replace h := jw_some h
    exact xo_71 (h rd)
theorem t_X11_goStep_66 {S : jS} (hS : jMok S) {d : Nat} {Q : Option Value → jx_H → Prop} {rd : Value} {x2 : Int32} {x3 : Int32} {σ : jT} (h : jw (f_X11_goStep_66 x2 x3 σ) (fun q => ∀ rd : Value, Q none (jh (jSrd S rd) q.2))) : jx_Sp (d + 105) 235 [.ref 65, .ref 66, .int x2, .int x3] (jh (jSrd S rd) σ) Q := by
  refine ⟨jm_i235, jm_at235, rfl, rfl, ?_⟩
  show jx_Ex _ jm_l235 jm_b235_0 [.ref 65, .ref 66, .int x2, .int x3, .retAddr 0, .retAddr 0, .retAddr 0, .retAddr 0, .retAddr 0] [] _ _
  unfold f_X11_goStep_66 at h
  refine xo_2 rfl ?_
  refine xo_8 ?_
  refine xm_38 (j := 1) (v := (σ.2 66 1)) (jSrd_ok hS rd) ly66 ⟨Nat.le_of_ble_eq_true rfl, Nat.le_of_ble_eq_true rfl⟩ (by decide) (by decide) rfl ?_
  refine xo_5 (ls' := [.ref 65, .ref 66, .int x2, .int x3, .int (σ.2 66 1), .retAddr 0, .retAddr 0, .retAddr 0, .retAddr 0]) rfl ?_
  refine xo_2 rfl ?_
  refine xo_8 ?_
  refine xm_38 (j := 2) (v := (σ.2 66 2)) (jSrd_ok hS rd) ly66 ⟨Nat.le_of_ble_eq_true rfl, Nat.le_of_ble_eq_true rfl⟩ (by decide) (by decide) rfl ?_
  refine xo_5 (ls' := [.ref 65, .ref 66, .int x2, .int x3, .int (σ.2 66 1), .int (σ.2 66 2), .retAddr 0, .retAddr 0, .retAddr 0]) rfl ?_
  refine xo_2 rfl ?_
  refine xo_8 ?_
  refine xm_38 (j := 0) (v := (σ.2 66 0)) (jSrd_ok hS rd) ly66 ⟨Nat.le_of_ble_eq_true rfl, Nat.le_of_ble_eq_true rfl⟩ (by decide) (by decide) rfl ?_
  refine xo_5 (ls' := [.ref 65, .ref 66, .int x2, .int x3, .int (σ.2 66 1), .int (σ.2 66 2), .int (σ.2 66 0), .retAddr 0, .retAddr 0]) rfl ?_
  refine xo_2 rfl ?_
  refine xo_0 rfl ?_
  refine xo_0 rfl ?_
  refine xo_1 rfl ?_
  refine xo_2 rfl ?_
  refine xo_8 ?_
  refine xm_38 (j := 3) (v := (σ.2 66 3)) (jSrd_ok hS rd) ly66 ⟨Nat.le_of_ble_eq_true rfl, Nat.le_of_ble_eq_true rfl⟩ (by decide) (by decide) rfl ?_
  refine xo_2 rfl ?_
  refine xo_2 rfl ?_
  refine xo_1 rfl ?_
  refine xo_49 (st' := [.int (σ.2 66 3), .int (σ.2 66 0), .int x3, .int x2, .ref 65]) rfl rfl (xm_ly (jSrd_ok hS rd) ly65) rfl (Nat.le_of_ble_eq_true rfl) ?_
  refine t_X11_leftOf_66 hS ?_
  refine jw_mono (jw_bind h) (fun q1 h => ?_)
  show jx_Ex _ _ _ _ [.int q1.1, .int (σ.2 66 3), .int (σ.2 66 0), .int x3, .int x2, .ref 65] (jh (jSrd S rd) q1.2) _
  refine xo_2 rfl ?_
  refine xo_2 rfl ?_
  refine xo_1 rfl ?_
  refine xo_49 (st' := [.int q1.1, .int (σ.2 66 3), .int (σ.2 66 0), .int x3, .int x2, .ref 65]) rfl rfl (xm_ly (jSrd_ok hS rd) ly65) rfl (Nat.le_of_ble_eq_true rfl) ?_
  refine t_X11_leftOf_66 hS ?_
  refine jw_mono (jw_bind h) (fun q2 h => ?_)
  show jx_Ex _ _ _ _ [.int q2.1, .int q1.1, .int (σ.2 66 3), .int (σ.2 66 0), .int x3, .int x2, .ref 65] (jh (jSrd S rd) q2.2) _
  refine xo_49 (st' := []) rfl rfl (xm_ly (jSrd_ok hS rd) ly65) rfl (Nat.le_of_ble_eq_true rfl) ?_
  refine t_X11_wayBy hS ?_
  refine jw_mono (jw_bind h) (fun q3 h rd4 => ?_)
  show jx_Ex _ _ _ _ [.int q3.1] (jh (jSrd S rd4) q3.2) _
  refine xo_5 (ls' := [.ref 65, .ref 66, .int x2, .int x3, .int (σ.2 66 1), .int (σ.2 66 2), .int (σ.2 66 0), .int q3.1, .retAddr 0]) rfl ?_
  refine xo_2 rfl ?_
  refine xo_8 ?_
  refine xo_2 rfl ?_
  refine xm_33 (i := 4163) (q := 68) (jSrd_ok hS rd4) ly65 rfl (xm_P (jSrd_ok hS rd4) (by decide)) ?_
  refine xo_8 ?_
  refine xo_1 rfl ?_
  refine xo_16 ?_
  refine xo_1 rfl ?_
  refine xo_14 ?_
  obtain ⟨hi5, h⟩ := jw_chk h
  refine xm_38 (j := ((3 * (σ.2 66 0)) + q3.1).toNatClampNeg) (v := (q3.2.2 68 ((3 * (σ.2 66 0)) + q3.1).toNatClampNeg)) (jSrd_ok hS rd4) ly68 ⟨Nat.le_of_ble_eq_true rfl, Nat.le_of_ble_eq_true rfl⟩ hi5 rfl rfl ?_
  refine xm_41 (j := 0) (jSrd_ok hS rd4) ly66 ⟨Nat.le_of_ble_eq_true rfl, Nat.le_of_ble_eq_true rfl⟩ (by decide) (by decide) ?_
  refine xo_2 rfl ?_
  refine xo_9 ?_
  refine xo_1 rfl ?_
  refine xo_14 ?_
  refine xo_2 rfl ?_
  refine xo_8 ?_
  refine xm_38 (j := 0) (v := (q3.2.2 68 ((3 * (σ.2 66 0)) + q3.1).toNatClampNeg)) (jSrd_ok hS rd4) ly66 ⟨Nat.le_of_ble_eq_true rfl, Nat.le_of_ble_eq_true rfl⟩ (by decide) (by decide) rfl ?_
  obtain ⟨hi6, h⟩ := jw_chk h
  refine xm_41 (j := (10 + (σ.2 66 1)).toNatClampNeg) (jSrd_ok hS rd4) ly66 ⟨Nat.le_of_ble_eq_true rfl, Nat.le_of_ble_eq_true rfl⟩ hi6 rfl ?_
  refine xo_2 rfl ?_
  refine xo_9 ?_
  refine xo_1 rfl ?_
  refine xo_14 ?_
  refine xo_2 rfl ?_
  refine xo_8 ?_
  refine xm_38 (j := 0) (v := ((gA (gA q3.2 66 0 (q3.2.2 68 ((3 * (σ.2 66 0)) + q3.1).toNatClampNeg)) 66 (10 + (σ.2 66 1)).toNatClampNeg (q3.2.2 68 ((3 * (σ.2 66 0)) + q3.1).toNatClampNeg)).2 66 0)) (jSrd_ok hS rd4) ly66 ⟨Nat.le_of_ble_eq_true rfl, Nat.le_of_ble_eq_true rfl⟩ (by decide) (by decide) rfl ?_
  obtain ⟨hi7, h⟩ := jw_chk h
  refine xm_41 (j := (10 + (σ.2 66 2)).toNatClampNeg) (jSrd_ok hS rd4) ly66 ⟨Nat.le_of_ble_eq_true rfl, Nat.le_of_ble_eq_true rfl⟩ hi7 rfl ?_
  refine xo_2 rfl ?_
  refine xo_8 ?_
  refine xo_29 ?_
  refine xm_38 (j := 3) (v := ((gA (gA (gA q3.2 66 0 (q3.2.2 68 ((3 * (σ.2 66 0)) + q3.1).toNatClampNeg)) 66 (10 + (σ.2 66 1)).toNatClampNeg (q3.2.2 68 ((3 * (σ.2 66 0)) + q3.1).toNatClampNeg)) 66 (10 + (σ.2 66 2)).toNatClampNeg ((gA (gA q3.2 66 0 (q3.2.2 68 ((3 * (σ.2 66 0)) + q3.1).toNatClampNeg)) 66 (10 + (σ.2 66 1)).toNatClampNeg (q3.2.2 68 ((3 * (σ.2 66 0)) + q3.1).toNatClampNeg)).2 66 0)).2 66 3)) (jSrd_ok hS rd4) ly66 ⟨Nat.le_of_ble_eq_true rfl, Nat.le_of_ble_eq_true rfl⟩ (by decide) (by decide) rfl ?_
  refine xo_8 ?_
  refine xo_14 ?_
  refine xm_41 (j := 3) (jSrd_ok hS rd4) ly66 ⟨Nat.le_of_ble_eq_true rfl, Nat.le_of_ble_eq_true rfl⟩ (by decide) (by decide) ?_
  refine xo_2 rfl ?_
  refine xo_2 rfl ?_
  refine xo_1 rfl ?_
  refine xo_49 (st' := []) rfl rfl (xm_ly (jSrd_ok hS rd4) ly65) rfl (Nat.le_of_ble_eq_true rfl) ?_
  refine t_X11_leftOf_66 hS ?_
  refine jw_mono (jw_bind h) (fun q8 h => ?_)
  show jx_Ex _ _ _ _ [.int q8.1] (jh (jSrd S rd4) q8.2) _
  refine xo_2 rfl ?_
  refine xo_2 rfl ?_
  refine xo_1 rfl ?_
  refine xo_49 (st' := [.int q8.1]) rfl rfl (xm_ly (jSrd_ok hS rd4) ly65) rfl (Nat.le_of_ble_eq_true rfl) ?_
  refine t_X11_leftOf_66 hS ?_
  refine jw_mono (jw_bind h) (fun q9 h => ?_)
  show jx_Ex _ _ _ _ [.int q9.1, .int q8.1] (jh (jSrd S rd4) q9.2) _
  refine xo_64 (t := jm_b235_106) rfl (fun hc10 => ?_) (fun hc10 => ?_)
  · replace h := jw_pos hc10 h
    refine xo_1 rfl ?_
    exact t_X11_goStep_66_b108 hS h
  · replace h := jw_neg hc10 h
    refine xo_1 rfl ?_
    refine xo_54 (t := jm_b235_108) rfl ?_
    exact t_X11_goStep_66_b108 hS h
/-- OfDifferentMindsModel.step, at ['m', 'm.now'] U -/
def f_X11_step_66 (σ : jT) : Option (Int32 × jT) :=
  (f_X11_goesOn_66 σ).bind fun q1 =>
  if ¬ q1.1 = 0 then
    (f_X11_viewOf_66 (q1.2.2 66 1) (q1.2.2 66 0) q1.2).bind fun q3 =>
    (f_X11_viewOf_66 (q3.2.2 66 2) (q3.2.2 66 0) q3.2).bind fun q4 =>
    (f_X11_goStep_66 q3.1 q4.1 q4.2).bind fun q5 =>
    some (1, q5.2)
  else
    some (0, q1.2)
theorem t_X11_step_66 {S : jS} (hS : jMok S) {d : Nat} {Q : Option Value → jx_H → Prop} {rd : Value} {σ : jT} (h : jw (f_X11_step_66 σ) (fun q => ∀ rd : Value, Q (some (.int q.1)) (jh (jSrd S rd) q.2))) : jx_Sp (d + 106) 236 [.ref 65, .ref 66] (jh (jSrd S rd) σ) Q := by
  refine ⟨jm_i236, jm_at236, rfl, rfl, ?_⟩
  show jx_Ex _ jm_l236 jm_b236_0 [.ref 65, .ref 66] [] _ _
  unfold f_X11_step_66 at h
  refine xo_2 rfl ?_
  refine xo_2 rfl ?_
  refine xo_49 (st' := []) rfl rfl (xm_ly (jSrd_ok hS rd) ly65) rfl (Nat.le_of_ble_eq_true rfl) ?_
  refine t_X11_goesOn_66 hS ?_
  refine jw_mono (jw_bind h) (fun q1 h => ?_)
  show jx_Ex _ _ _ _ [.int q1.1] (jh (jSrd S rd) q1.2) _
  refine xo_56 (t := jm_b236_10) rfl (fun hc2 => ?_) (fun hc2 => ?_)
  · replace h := jw_pos hc2 h
    refine xo_2 rfl ?_
    refine xo_2 rfl ?_
    refine xo_2 rfl ?_
    refine xo_2 rfl ?_
    refine xo_2 rfl ?_
    refine xo_8 ?_
    refine xm_38 (j := 1) (v := (q1.2.2 66 1)) (jSrd_ok hS rd) ly66 ⟨Nat.le_of_ble_eq_true rfl, Nat.le_of_ble_eq_true rfl⟩ (by decide) (by decide) rfl ?_
    refine xo_2 rfl ?_
    refine xo_8 ?_
    refine xm_38 (j := 0) (v := (q1.2.2 66 0)) (jSrd_ok hS rd) ly66 ⟨Nat.le_of_ble_eq_true rfl, Nat.le_of_ble_eq_true rfl⟩ (by decide) (by decide) rfl ?_
    refine xo_49 (st' := [.ref 66, .ref 65]) rfl rfl (xm_ly (jSrd_ok hS rd) ly65) rfl (Nat.le_of_ble_eq_true rfl) ?_
    refine t_X11_viewOf_66 hS ?_
    refine jw_mono (jw_bind h) (fun q3 h => ?_)
    show jx_Ex _ _ _ _ [.int q3.1, .ref 66, .ref 65] (jh (jSrd S rd) q3.2) _
    refine xo_2 rfl ?_
    refine xo_2 rfl ?_
    refine xo_2 rfl ?_
    refine xo_8 ?_
    refine xm_38 (j := 2) (v := (q3.2.2 66 2)) (jSrd_ok hS rd) ly66 ⟨Nat.le_of_ble_eq_true rfl, Nat.le_of_ble_eq_true rfl⟩ (by decide) (by decide) rfl ?_
    refine xo_2 rfl ?_
    refine xo_8 ?_
    refine xm_38 (j := 0) (v := (q3.2.2 66 0)) (jSrd_ok hS rd) ly66 ⟨Nat.le_of_ble_eq_true rfl, Nat.le_of_ble_eq_true rfl⟩ (by decide) (by decide) rfl ?_
    refine xo_49 (st' := [.int q3.1, .ref 66, .ref 65]) rfl rfl (xm_ly (jSrd_ok hS rd) ly65) rfl (Nat.le_of_ble_eq_true rfl) ?_
    refine t_X11_viewOf_66 hS ?_
    refine jw_mono (jw_bind h) (fun q4 h => ?_)
    show jx_Ex _ _ _ _ [.int q4.1, .int q3.1, .ref 66, .ref 65] (jh (jSrd S rd) q4.2) _
    refine xo_49 (st' := []) rfl rfl (xm_ly (jSrd_ok hS rd) ly65) rfl (Nat.le_of_ble_eq_true rfl) ?_
    refine t_X11_goStep_66 hS ?_
    refine jw_mono (jw_bind h) (fun q5 h rd6 => ?_)
    show jx_Ex _ _ _ _ [] (jh (jSrd S rd6) q5.2) _
    refine xo_8 ?_
    replace h := jw_some h
    exact xo_70 (by decide) (h rd6)
  · replace h := jw_neg hc2 h
    refine xo_8 ?_
    replace h := jw_some h
    exact xo_70 (by decide) (h rd)
/-- OfDifferentMindsModel.goRide, at ['m', 'm.now', 'int'] U -/
def f_X11_goRide_66_b36 (k7 : Int32 → Int32 → jT → Option (Int32 × jT)) (x2 : Int32) (x3 : Int32) (σ : jT) : Option (Int32 × jT) :=
  k7 x2 (x3 + 1) σ
def f_X11_goRide_66_b7 : Nat → Int32 → Int32 → jT → Option (Int32 × jT)
  | 0, _, _, _ => none
  | n + 1, x2, x3, σ =>
    if x2 ≤ x3 then
      some (x3, σ)
    else
      (f_X11_step_66 σ).bind fun q2 =>
      if q2.1 = 0 then
        some (x3, q2.2)
      else
        if (q2.2.1 4187) = (-1) then
          f_X11_goRide_66_b36 (f_X11_goRide_66_b7 n) x2 x3 q2.2
        else
          f_X11_goRide_66_b36 (f_X11_goRide_66_b7 n) x2 x3 (gs q2.2 4191 (q2.2.1 4187))
def f_X11_goRide_66 (x2 : Int32) (σ : jT) : Option (Int32 × jT) :=
  f_X11_goRide_66_b7 1000 x2 0 (gs σ 4191 (-1))
theorem t_X11_goRide_66_b36 {S : jS} (hS : jMok S) {d : Nat} {Q : Option Value → jx_H → Prop} {k7 : Int32 → Int32 → jT → Option (Int32 × jT)} (hk7 : ∀ {rd : Value} {x2 : Int32} {x3 : Int32} {σ : jT}, jw (k7 x2 x3 σ) (fun q => ∀ rd : Value, Q (some (.int q.1)) (jh (jSrd S rd) q.2)) → jx_Ex (d + 107) jm_l248 jm_b248_7 [.ref 65, .ref 66, .int x2, .int x3] [] (jh (jSrd S rd) σ) Q) {rd : Value} {x2 : Int32} {x3 : Int32} {σ : jT} (h : jw (f_X11_goRide_66_b36 k7 x2 x3 σ) (fun q => ∀ rd : Value, Q (some (.int q.1)) (jh (jSrd S rd) q.2))) : jx_Ex (d + 107) jm_l248 jm_b248_36 [.ref 65, .ref 66, .int x2, .int x3] [] (jh (jSrd S rd) σ) Q := by
  unfold f_X11_goRide_66_b36 at h
  refine xo_13 (ls' := [.ref 65, .ref 66, .int x2, .int (x3 + 1)]) rfl rfl ?_
  refine xo_54 (t := jm_b248_7) rfl ?_
  exact hk7 h
theorem t_X11_goRide_66_b7 {S : jS} (hS : jMok S) {d : Nat} {Q : Option Value → jx_H → Prop} : ∀ (n : Nat) {rd : Value} {x2 : Int32} {x3 : Int32} {σ : jT}, jw (f_X11_goRide_66_b7 n x2 x3 σ) (fun q => ∀ rd : Value, Q (some (.int q.1)) (jh (jSrd S rd) q.2)) → jx_Ex (d + 107) jm_l248 jm_b248_7 [.ref 65, .ref 66, .int x2, .int x3] [] (jh (jSrd S rd) σ) Q := by
  intro n
  induction n with
  | zero => intro rd x2 x3 σ h; exact jw_none h
  | succ n ih =>
    intro rd x2 x3 σ h
    rw [f_X11_goRide_66_b7] at h
    refine xo_0 rfl ?_
    refine xo_0 rfl ?_
    refine xo_64 (t := jm_b248_42) rfl (fun hc1 => ?_) (fun hc1 => ?_)
    · replace h := jw_pos hc1 h
      refine xo_0 rfl ?_
      replace h := jw_some h
      exact xo_69 (h rd)
    · replace h := jw_neg hc1 h
      refine xo_2 rfl ?_
      refine xo_2 rfl ?_
      refine xo_49 (st' := []) rfl rfl (xm_ly (jSrd_ok hS rd) ly65) rfl (Nat.le_of_ble_eq_true rfl) ?_
      refine t_X11_step_66 hS ?_
      refine jw_mono (jw_bind h) (fun q2 h rd3 => ?_)
      show jx_Ex _ _ _ _ [.int q2.1] (jh (jSrd S rd3) q2.2) _
      refine xo_55 (t := jm_b248_42) rfl (fun hc4 => ?_) (fun hc4 => ?_)
      · replace h := jw_pos hc4 h
        refine xo_0 rfl ?_
        replace h := jw_some h
        exact xo_69 (h rd3)
      · replace h := jw_neg hc4 h
        refine xo_2 rfl ?_
        refine xm_32 (i := 4187) (v := (q2.2.1 4187)) (jSrd_ok hS rd3) ly65 rfl ⟨Nat.le_of_ble_eq_true rfl, Nat.le_of_ble_eq_true rfl⟩ rfl ?_
        refine xo_8 ?_
        refine xo_61 (t := jm_b248_36) rfl (fun hc5 => ?_) (fun hc5 => ?_)
        · replace h := jw_pos hc5 h
          exact t_X11_goRide_66_b36 hS ih h
        · replace h := jw_neg hc5 h
          refine xo_2 rfl ?_
          refine xo_2 rfl ?_
          refine xm_32 (i := 4187) (v := (q2.2.1 4187)) (jSrd_ok hS rd3) ly65 rfl ⟨Nat.le_of_ble_eq_true rfl, Nat.le_of_ble_eq_true rfl⟩ rfl ?_
          refine xm_34 (i := 4191) (jSrd_ok hS rd3) ly65 rfl ⟨Nat.le_of_ble_eq_true rfl, Nat.le_of_ble_eq_true rfl⟩ ?_
          exact t_X11_goRide_66_b36 hS ih h
theorem t_X11_goRide_66 {S : jS} (hS : jMok S) {d : Nat} {Q : Option Value → jx_H → Prop} {rd : Value} {x2 : Int32} {σ : jT} (h : jw (f_X11_goRide_66 x2 σ) (fun q => ∀ rd : Value, Q (some (.int q.1)) (jh (jSrd S rd) q.2))) : jx_Sp (d + 107) 248 [.ref 65, .ref 66, .int x2] (jh (jSrd S rd) σ) Q := by
  refine ⟨jm_i248, jm_at248, rfl, rfl, ?_⟩
  show jx_Ex _ jm_l248 jm_b248_0 [.ref 65, .ref 66, .int x2, .retAddr 0] [] _ _
  unfold f_X11_goRide_66 at h
  refine xo_8 ?_
  refine xo_4 (ls' := [.ref 65, .ref 66, .int x2, .int 0]) rfl ?_
  refine xo_2 rfl ?_
  refine xo_8 ?_
  refine xm_34 (i := 4191) (jSrd_ok hS rd) ly65 rfl ⟨Nat.le_of_ble_eq_true rfl, Nat.le_of_ble_eq_true rfl⟩ ?_
  exact t_X11_goRide_66_b7 hS 1000 h
/-- OfDifferentMindsModel.tell, at ['m', 'int'] K -/
def f_X11_tell (x1 : Int32) (σ : jT) : Option (Int32 × jT) :=
  if jx_in (σ.1 4171) 40 then
  some (0, (gs (gA σ 72 (σ.1 4171).toNatClampNeg x1) 4171 ((σ.1 4171) + 1)))
  else none
theorem t_X11_tell {S : jS} (hS : jMok S) {d : Nat} {Q : Option Value → jx_H → Prop} {rd : Value} {x1 : Int32} {σ : jT} (h : jw (f_X11_tell x1 σ) (fun q => Q none (jh (jSrd S rd) q.2))) : jx_Sp (d) 205 [.ref 65, .int x1] (jh (jSrd S rd) σ) Q := by
  refine ⟨jm_i205, jm_at205, rfl, rfl, ?_⟩
  show jx_Ex _ jm_l205 jm_b205_0 [.ref 65, .int x1] [] _ _
  unfold f_X11_tell at h
  refine xo_2 rfl ?_
  refine xm_33 (i := 4170) (q := 72) (jSrd_ok hS rd) ly65 rfl (xm_P (jSrd_ok hS rd) (by decide)) ?_
  refine xo_2 rfl ?_
  refine xm_32 (i := 4171) (v := (σ.1 4171)) (jSrd_ok hS rd) ly65 rfl ⟨Nat.le_of_ble_eq_true rfl, Nat.le_of_ble_eq_true rfl⟩ rfl ?_
  refine xo_0 rfl ?_
  obtain ⟨hi1, h⟩ := jw_chk h
  refine xm_41 (j := (σ.1 4171).toNatClampNeg) (jSrd_ok hS rd) ly72 ⟨Nat.le_of_ble_eq_true rfl, Nat.le_of_ble_eq_true rfl⟩ hi1 rfl ?_
  refine xo_2 rfl ?_
  refine xo_28r ?_
  refine xm_32 (i := 4171) (v := (σ.1 4171)) (jSrd_ok hS rd) ly65 rfl ⟨Nat.le_of_ble_eq_true rfl, Nat.le_of_ble_eq_true rfl⟩ rfl ?_
  refine xo_8 ?_
  refine xo_14 ?_
  refine xm_34 (i := 4171) (jSrd_ok hS rd) ly65 rfl ⟨Nat.le_of_ble_eq_true rfl, Nat.le_of_ble_eq_true rfl⟩ ?_
  replace h := jw_some h
  exact xo_71 h
/-- OfDifferentMindsModel.lay, at ['m.aside', 'm.undos', 'int'] K -/
def f_X11_lay_80_79_b2 : Nat → Int32 → Int32 → jT → Option (Int32 × jT)
  | 0, _, _, _ => none
  | n + 1, x2, x3, σ =>
    if 28 ≤ x3 then
      some (0, σ)
    else
      if jx_in x3 28 then
      if jx_in (x2 + x3) 336 then
      f_X11_lay_80_79_b2 n x2 (x3 + 1) (gA σ 79 (x2 + x3).toNatClampNeg (σ.2 80 x3.toNatClampNeg))
      else none
      else none
def f_X11_lay_80_79 (x2 : Int32) (σ : jT) : Option (Int32 × jT) :=
  f_X11_lay_80_79_b2 1000 x2 0 σ
theorem t_X11_lay_80_79_b2 {S : jS} (hS : jMok S) {d : Nat} {Q : Option Value → jx_H → Prop} {rd : Value} : ∀ (n : Nat) {x2 : Int32} {x3 : Int32} {σ : jT}, jw (f_X11_lay_80_79_b2 n x2 x3 σ) (fun q => Q none (jh (jSrd S rd) q.2)) → jx_Ex (d) jm_l241 jm_b241_2 [.ref 80, .ref 79, .int x2, .int x3] [] (jh (jSrd S rd) σ) Q := by
  intro n
  induction n with
  | zero => intro x2 x3 σ h; exact jw_none h
  | succ n ih =>
    intro x2 x3 σ h
    rw [f_X11_lay_80_79_b2] at h
    refine xo_0 rfl ?_
    refine xo_9 ?_
    refine xo_64 (t := jm_b241_22) rfl (fun hc1 => ?_) (fun hc1 => ?_)
    · replace h := jw_pos hc1 h
      replace h := jw_some h
      exact xo_71 h
    · replace h := jw_neg hc1 h
      refine xo_2 rfl ?_
      refine xo_0 rfl ?_
      refine xo_0 rfl ?_
      refine xo_14 ?_
      refine xo_2 rfl ?_
      refine xo_0 rfl ?_
      obtain ⟨hi2, h⟩ := jw_chk h
      refine xm_38 (j := x3.toNatClampNeg) (v := (σ.2 80 x3.toNatClampNeg)) (jSrd_ok hS rd) ly80 ⟨Nat.le_of_ble_eq_true rfl, Nat.le_of_ble_eq_true rfl⟩ hi2 rfl rfl ?_
      obtain ⟨hi3, h⟩ := jw_chk h
      refine xm_41 (j := (x2 + x3).toNatClampNeg) (jSrd_ok hS rd) ly79 ⟨Nat.le_of_ble_eq_true rfl, Nat.le_of_ble_eq_true rfl⟩ hi3 rfl ?_
      refine xo_13 (ls' := [.ref 80, .ref 79, .int x2, .int (x3 + 1)]) rfl rfl ?_
      refine xo_54 (t := jm_b241_2) rfl ?_
      exact ih h
theorem t_X11_lay_80_79 {S : jS} (hS : jMok S) {d : Nat} {Q : Option Value → jx_H → Prop} {rd : Value} {x2 : Int32} {σ : jT} (h : jw (f_X11_lay_80_79 x2 σ) (fun q => Q none (jh (jSrd S rd) q.2))) : jx_Sp (d) 241 [.ref 80, .ref 79, .int x2] (jh (jSrd S rd) σ) Q := by
  refine ⟨jm_i241, jm_at241, rfl, rfl, ?_⟩
  show jx_Ex _ jm_l241 jm_b241_0 [.ref 80, .ref 79, .int x2, .retAddr 0] [] _ _
  unfold f_X11_lay_80_79 at h
  refine xo_8 ?_
  refine xo_4 (ls' := [.ref 80, .ref 79, .int x2, .int 0]) rfl ?_
  exact t_X11_lay_80_79_b2 hS 1000 h
/-- OfDifferentMindsModel.remember, at ['m', 'm.aside'] K -/
def f_X11_remember_80_b49 (σ : jT) : Option (Int32 × jT) :=
  (f_X11_lay_80_79 (28 * (σ.1 4189)) σ).bind fun q1 =>
  some (0, (gs q1.2 4189 ((q1.2.1 4189) + 1)))
def f_X11_remember_80_b11 : Nat → Int32 → jT → Option (Int32 × jT)
  | 0, _, _ => none
  | n + 1, x2, σ =>
    if 308 ≤ x2 then
      f_X11_remember_80_b49 (gs σ 4189 ((σ.1 4189) - 1))
    else
      if jx_in (x2 + 28) 336 then
      if jx_in x2 336 then
      f_X11_remember_80_b11 n (x2 + 1) (gA σ 79 x2.toNatClampNeg (σ.2 79 (x2 + 28).toNatClampNeg))
      else none
      else none
def f_X11_remember_80 (σ : jT) : Option (Int32 × jT) :=
  if ¬ (σ.1 4189) = 12 then
    f_X11_remember_80_b49 σ
  else
    f_X11_remember_80_b11 1000 0 σ
theorem t_X11_remember_80_b49 {S : jS} (hS : jMok S) {d : Nat} {Q : Option Value → jx_H → Prop} {rd : Value} {w2 : Value} {σ : jT} (h : jw (f_X11_remember_80_b49 σ) (fun q => Q none (jh (jSrd S rd) q.2))) : jx_Ex (d + 1) jm_l242 jm_b242_49 [.ref 65, .ref 80, w2] [] (jh (jSrd S rd) σ) Q := by
  unfold f_X11_remember_80_b49 at h
  refine xo_2 rfl ?_
  refine xo_2 rfl ?_
  refine xm_33 (i := 4188) (q := 79) (jSrd_ok hS rd) ly65 rfl (xm_P (jSrd_ok hS rd) (by decide)) ?_
  refine xo_9 ?_
  refine xo_2 rfl ?_
  refine xm_32 (i := 4189) (v := (σ.1 4189)) (jSrd_ok hS rd) ly65 rfl ⟨Nat.le_of_ble_eq_true rfl, Nat.le_of_ble_eq_true rfl⟩ rfl ?_
  refine xo_16 ?_
  refine xo_50 (st' := []) rfl rfl rfl (Nat.le_of_ble_eq_true rfl) ?_
  refine t_X11_lay_80_79 hS ?_
  refine jw_mono (jw_bind h) (fun q1 h => ?_)
  show jx_Ex _ _ _ _ [] (jh (jSrd S rd) q1.2) _
  refine xo_2 rfl ?_
  refine xo_28r ?_
  refine xm_32 (i := 4189) (v := (q1.2.1 4189)) (jSrd_ok hS rd) ly65 rfl ⟨Nat.le_of_ble_eq_true rfl, Nat.le_of_ble_eq_true rfl⟩ rfl ?_
  refine xo_8 ?_
  refine xo_14 ?_
  refine xm_34 (i := 4189) (jSrd_ok hS rd) ly65 rfl ⟨Nat.le_of_ble_eq_true rfl, Nat.le_of_ble_eq_true rfl⟩ ?_
  replace h := jw_some h
  exact xo_71 h
theorem t_X11_remember_80_b11 {S : jS} (hS : jMok S) {d : Nat} {Q : Option Value → jx_H → Prop} {rd : Value} : ∀ (n : Nat) {x2 : Int32} {σ : jT}, jw (f_X11_remember_80_b11 n x2 σ) (fun q => Q none (jh (jSrd S rd) q.2)) → jx_Ex (d + 1) jm_l242 jm_b242_11 [.ref 65, .ref 80, .int x2] [] (jh (jSrd S rd) σ) Q := by
  intro n
  induction n with
  | zero => intro x2 σ h; exact jw_none h
  | succ n ih =>
    intro x2 σ h
    rw [f_X11_remember_80_b11] at h
    refine xo_0 rfl ?_
    refine xo_10 ?_
    refine xo_64 (t := jm_b242_39) rfl (fun hc1 => ?_) (fun hc1 => ?_)
    · replace h := jw_pos hc1 h
      refine xo_2 rfl ?_
      refine xo_28r ?_
      refine xm_32 (i := 4189) (v := (σ.1 4189)) (jSrd_ok hS rd) ly65 rfl ⟨Nat.le_of_ble_eq_true rfl, Nat.le_of_ble_eq_true rfl⟩ rfl ?_
      refine xo_8 ?_
      refine xo_15 ?_
      refine xm_34 (i := 4189) (jSrd_ok hS rd) ly65 rfl ⟨Nat.le_of_ble_eq_true rfl, Nat.le_of_ble_eq_true rfl⟩ ?_
      exact t_X11_remember_80_b49 hS h
    · replace h := jw_neg hc1 h
      refine xo_2 rfl ?_
      refine xm_33 (i := 4188) (q := 79) (jSrd_ok hS rd) ly65 rfl (xm_P (jSrd_ok hS rd) (by decide)) ?_
      refine xo_0 rfl ?_
      refine xo_2 rfl ?_
      refine xm_33 (i := 4188) (q := 79) (jSrd_ok hS rd) ly65 rfl (xm_P (jSrd_ok hS rd) (by decide)) ?_
      refine xo_0 rfl ?_
      refine xo_9 ?_
      refine xo_14 ?_
      obtain ⟨hi2, h⟩ := jw_chk h
      refine xm_38 (j := (x2 + 28).toNatClampNeg) (v := (σ.2 79 (x2 + 28).toNatClampNeg)) (jSrd_ok hS rd) ly79 ⟨Nat.le_of_ble_eq_true rfl, Nat.le_of_ble_eq_true rfl⟩ hi2 rfl rfl ?_
      obtain ⟨hi3, h⟩ := jw_chk h
      refine xm_41 (j := x2.toNatClampNeg) (jSrd_ok hS rd) ly79 ⟨Nat.le_of_ble_eq_true rfl, Nat.le_of_ble_eq_true rfl⟩ hi3 rfl ?_
      refine xo_13 (ls' := [.ref 65, .ref 80, .int (x2 + 1)]) rfl rfl ?_
      refine xo_54 (t := jm_b242_11) rfl ?_
      exact ih h
theorem t_X11_remember_80 {S : jS} (hS : jMok S) {d : Nat} {Q : Option Value → jx_H → Prop} {rd : Value} {σ : jT} (h : jw (f_X11_remember_80 σ) (fun q => Q none (jh (jSrd S rd) q.2))) : jx_Sp (d + 1) 242 [.ref 65, .ref 80] (jh (jSrd S rd) σ) Q := by
  refine ⟨jm_i242, jm_at242, rfl, rfl, ?_⟩
  show jx_Ex _ jm_l242 jm_b242_0 [.ref 65, .ref 80, .retAddr 0] [] _ _
  unfold f_X11_remember_80 at h
  refine xo_2 rfl ?_
  refine xm_32 (i := 4189) (v := (σ.1 4189)) (jSrd_ok hS rd) ly65 rfl ⟨Nat.le_of_ble_eq_true rfl, Nat.le_of_ble_eq_true rfl⟩ rfl ?_
  refine xo_9 ?_
  refine xo_62 (t := jm_b242_49) rfl (fun hc1 => ?_) (fun hc1 => ?_)
  · replace h := jw_pos hc1 h
    exact t_X11_remember_80_b49 hS h
  · replace h := jw_neg hc1 h
    refine xo_8 ?_
    refine xo_4 (ls' := [.ref 65, .ref 80, .int 0]) rfl ?_
    exact t_X11_remember_80_b11 hS 1000 h
/-- OfDifferentMindsModel.ride, at ['m', 'int'] U -/
def f_X11_ride_b87 (x2 : Int32) (s0 : Int32) (σ : jT) : Option (Int32 × jT) :=
  (f_X11_tell s0 σ).bind fun q1 =>
  (f_X11_tell (q1.2.1 4191) q1.2).bind fun q2 =>
  some (x2, q2.2)
def f_X11_ride_b61 (x1 : Int32) (x2 : Int32) (σ : jT) : Option (Int32 × jT) :=
  (f_X11_tell (σ.2 66 0) (gs σ 4171 0)).bind fun q1 =>
  if x1 ≤ x2 then
    f_X11_ride_b87 x2 0 q1.2
  else
    f_X11_ride_b87 x2 1 q1.2
def f_X11_ride (x1 : Int32) (σ : jT) : Option (Int32 × jT) :=
  (f_X11_in x1 0 99 (gs σ 4172 0)).bind fun q1 =>
  if ¬ q1.1 = 0 then
    (f_X11_isRidden q1.2).bind fun q3 =>
    if ¬ q3.1 = 0 then
      (f_X11_lay_66_80 0 q3.2).bind fun q5 =>
      (f_X11_goRide_66 x1 q5.2).bind fun q6 =>
      if q6.1 ≤ 0 then
        f_X11_ride_b61 x1 q6.1 q6.2
      else
        (f_X11_remember_80 q6.2).bind fun q9 =>
        f_X11_ride_b61 x1 q6.1 q9.2
    else
      some ((-2), q3.2)
  else
    some ((-1), q1.2)
theorem t_X11_ride_b87 {S : jS} (hS : jMok S) {d : Nat} {Q : Option Value → jx_H → Prop} {rd : Value} {x2 : Int32} {s0 : Int32} {w1 : Value} {σ : jT} (h : jw (f_X11_ride_b87 x2 s0 σ) (fun q => ∀ rd : Value, Q (some (.int q.1)) (jh (jSrd S rd) q.2))) : jx_Ex (d + 108) jm_l249 jm_b249_87 [.ref 65, w1, .int x2] [.int s0, .ref 65] (jh (jSrd S rd) σ) Q := by
  unfold f_X11_ride_b87 at h
  refine xo_49 (st' := []) rfl rfl (xm_ly (jSrd_ok hS rd) ly65) rfl (Nat.le_of_ble_eq_true rfl) ?_
  refine t_X11_tell hS ?_
  refine jw_mono (jw_bind h) (fun q1 h => ?_)
  show jx_Ex _ _ _ _ [] (jh (jSrd S rd) q1.2) _
  refine xo_2 rfl ?_
  refine xo_2 rfl ?_
  refine xm_32 (i := 4191) (v := (q1.2.1 4191)) (jSrd_ok hS rd) ly65 rfl ⟨Nat.le_of_ble_eq_true rfl, Nat.le_of_ble_eq_true rfl⟩ rfl ?_
  refine xo_49 (st' := []) rfl rfl (xm_ly (jSrd_ok hS rd) ly65) rfl (Nat.le_of_ble_eq_true rfl) ?_
  refine t_X11_tell hS ?_
  refine jw_mono (jw_bind h) (fun q2 h => ?_)
  show jx_Ex _ _ _ _ [] (jh (jSrd S rd) q2.2) _
  refine xo_0 rfl ?_
  replace h := jw_some h
  exact xo_69 (h rd)
theorem t_X11_ride_b61 {S : jS} (hS : jMok S) {d : Nat} {Q : Option Value → jx_H → Prop} {rd : Value} {x1 : Int32} {x2 : Int32} {σ : jT} (h : jw (f_X11_ride_b61 x1 x2 σ) (fun q => ∀ rd : Value, Q (some (.int q.1)) (jh (jSrd S rd) q.2))) : jx_Ex (d + 108) jm_l249 jm_b249_61 [.ref 65, .int x1, .int x2] [] (jh (jSrd S rd) σ) Q := by
  unfold f_X11_ride_b61 at h
  refine xo_2 rfl ?_
  refine xo_8 ?_
  refine xm_34 (i := 4171) (jSrd_ok hS rd) ly65 rfl ⟨Nat.le_of_ble_eq_true rfl, Nat.le_of_ble_eq_true rfl⟩ ?_
  refine xo_2 rfl ?_
  refine xo_2 rfl ?_
  refine xm_33 (i := 4160) (q := 66) (jSrd_ok hS rd) ly65 rfl (xm_P (jSrd_ok hS rd) (by decide)) ?_
  refine xo_8 ?_
  refine xm_38 (j := 0) (v := (σ.2 66 0)) (jSrd_ok hS rd) ly66 ⟨Nat.le_of_ble_eq_true rfl, Nat.le_of_ble_eq_true rfl⟩ (by decide) (by decide) rfl ?_
  refine xo_49 (st' := []) rfl rfl (xm_ly (jSrd_ok hS rd) ly65) rfl (Nat.le_of_ble_eq_true rfl) ?_
  refine t_X11_tell hS ?_
  refine jw_mono (jw_bind h) (fun q1 h => ?_)
  show jx_Ex _ _ _ _ [] (jh (jSrd S rd) q1.2) _
  refine xo_2 rfl ?_
  refine xo_0 rfl ?_
  refine xo_0 rfl ?_
  refine xo_64 (t := jm_b249_86) rfl (fun hc2 => ?_) (fun hc2 => ?_)
  · replace h := jw_pos hc2 h
    refine xo_8 ?_
    exact t_X11_ride_b87 hS h
  · replace h := jw_neg hc2 h
    refine xo_8 ?_
    refine xo_54 (t := jm_b249_87) rfl ?_
    exact t_X11_ride_b87 hS h
theorem t_X11_ride {S : jS} (hS : jMok S) {d : Nat} {Q : Option Value → jx_H → Prop} {rd : Value} {x1 : Int32} {σ : jT} (h : jw (f_X11_ride x1 σ) (fun q => ∀ rd : Value, Q (some (.int q.1)) (jh (jSrd S rd) q.2))) : jx_Sp (d + 108) 249 [.ref 65, .int x1] (jh (jSrd S rd) σ) Q := by
  refine ⟨jm_i249, jm_at249, rfl, rfl, ?_⟩
  show jx_Ex _ jm_l249 jm_b249_0 [.ref 65, .int x1, .retAddr 0] [] _ _
  unfold f_X11_ride at h
  refine xo_2 rfl ?_
  refine xo_8 ?_
  refine xm_34 (i := 4172) (jSrd_ok hS rd) ly65 rfl ⟨Nat.le_of_ble_eq_true rfl, Nat.le_of_ble_eq_true rfl⟩ ?_
  refine xo_0 rfl ?_
  refine xo_8 ?_
  refine xo_9 ?_
  refine xo_50 (st' := []) rfl rfl rfl (Nat.le_of_ble_eq_true rfl) ?_
  refine t_X11_in hS ?_
  refine jw_mono (jw_bind h) (fun q1 h => ?_)
  show jx_Ex _ _ _ _ [.int q1.1] (jh (jSrd S rd) q1.2) _
  refine xo_56 (t := jm_b249_17) rfl (fun hc2 => ?_) (fun hc2 => ?_)
  · replace h := jw_pos hc2 h
    refine xo_2 rfl ?_
    refine xo_49 (st' := []) rfl rfl (xm_ly (jSrd_ok hS rd) ly65) rfl (Nat.le_of_ble_eq_true rfl) ?_
    refine t_X11_isRidden hS ?_
    refine jw_mono (jw_bind h) (fun q3 h => ?_)
    show jx_Ex _ _ _ _ [.int q3.1] (jh (jSrd S rd) q3.2) _
    refine xo_56 (t := jm_b249_27) rfl (fun hc4 => ?_) (fun hc4 => ?_)
    · replace h := jw_pos hc4 h
      refine xo_2 rfl ?_
      refine xm_33 (i := 4160) (q := 66) (jSrd_ok hS rd) ly65 rfl (xm_P (jSrd_ok hS rd) (by decide)) ?_
      refine xo_2 rfl ?_
      refine xm_33 (i := 4190) (q := 80) (jSrd_ok hS rd) ly65 rfl (xm_P (jSrd_ok hS rd) (by decide)) ?_
      refine xo_8 ?_
      refine xo_50 (st' := []) rfl rfl rfl (Nat.le_of_ble_eq_true rfl) ?_
      refine t_X11_lay_66_80 hS ?_
      refine jw_mono (jw_bind h) (fun q5 h => ?_)
      show jx_Ex _ _ _ _ [] (jh (jSrd S rd) q5.2) _
      refine xo_2 rfl ?_
      refine xo_2 rfl ?_
      refine xm_33 (i := 4160) (q := 66) (jSrd_ok hS rd) ly65 rfl (xm_P (jSrd_ok hS rd) (by decide)) ?_
      refine xo_0 rfl ?_
      refine xo_49 (st' := []) rfl rfl (xm_ly (jSrd_ok hS rd) ly65) rfl (Nat.le_of_ble_eq_true rfl) ?_
      refine t_X11_goRide_66 hS ?_
      refine jw_mono (jw_bind h) (fun q6 h rd7 => ?_)
      show jx_Ex _ _ _ _ [.int q6.1] (jh (jSrd S rd7) q6.2) _
      refine xo_4 (ls' := [.ref 65, .int x1, .int q6.1]) rfl ?_
      refine xo_0 rfl ?_
      refine xo_60 (t := jm_b249_61) rfl (fun hc8 => ?_) (fun hc8 => ?_)
      · replace h := jw_pos hc8 h
        exact t_X11_ride_b61 hS h
      · replace h := jw_neg hc8 h
        refine xo_2 rfl ?_
        refine xo_2 rfl ?_
        refine xm_33 (i := 4190) (q := 80) (jSrd_ok hS rd7) ly65 rfl (xm_P (jSrd_ok hS rd7) (by decide)) ?_
        refine xo_49 (st' := []) rfl rfl (xm_ly (jSrd_ok hS rd7) ly65) rfl (Nat.le_of_ble_eq_true rfl) ?_
        refine t_X11_remember_80 hS ?_
        refine jw_mono (jw_bind h) (fun q9 h => ?_)
        show jx_Ex _ _ _ _ [] (jh (jSrd S rd7) q9.2) _
        exact t_X11_ride_b61 hS h
    · replace h := jw_neg hc4 h
      refine xo_9 ?_
      replace h := jw_some h
      exact xo_69 (h rd)
  · replace h := jw_neg hc2 h
    refine xo_8 ?_
    replace h := jw_some h
    exact xo_69 (h rd)
/-- OfDifferentMindsModel.isWay, at ['m', 'int', 'int'] K -/
def f_X11_isWay (x1 : Int32) (x2 : Int32) (σ : jT) : Option (Int32 × jT) :=
  if jx_in x1 10 then
  (f_X11_in x2 0 ((σ.2 67 x1.toNatClampNeg) - 1) σ).bind fun q2 =>
  if q2.1 = 0 ∨ q2.1 = 1 then
  some (q2.1, q2.2)
  else none
  else none
theorem t_X11_isWay {S : jS} (hS : jMok S) {d : Nat} {Q : Option Value → jx_H → Prop} {rd : Value} {x1 : Int32} {x2 : Int32} {σ : jT} (h : jw (f_X11_isWay x1 x2 σ) (fun q => Q (some (.int q.1)) (jh (jSrd S rd) q.2))) : jx_Sp (d + 1) 250 [.ref 65, .int x1, .int x2] (jh (jSrd S rd) σ) Q := by
  refine ⟨jm_i250, jm_at250, rfl, rfl, ?_⟩
  show jx_Ex _ jm_l250 jm_b250_0 [.ref 65, .int x1, .int x2] [] _ _
  unfold f_X11_isWay at h
  refine xo_0 rfl ?_
  refine xo_8 ?_
  refine xo_2 rfl ?_
  refine xm_33 (i := 4162) (q := 67) (jSrd_ok hS rd) ly65 rfl (xm_P (jSrd_ok hS rd) (by decide)) ?_
  refine xo_0 rfl ?_
  obtain ⟨hi1, h⟩ := jw_chk h
  refine xm_38 (j := x1.toNatClampNeg) (v := (σ.2 67 x1.toNatClampNeg)) (jSrd_ok hS rd) ly67 ⟨Nat.le_of_ble_eq_true rfl, Nat.le_of_ble_eq_true rfl⟩ hi1 rfl rfl ?_
  refine xo_8 ?_
  refine xo_15 ?_
  refine xo_50 (st' := []) rfl rfl rfl (Nat.le_of_ble_eq_true rfl) ?_
  refine t_X11_in hS ?_
  refine jw_mono (jw_bind h) (fun q2 h => ?_)
  show jx_Ex _ _ _ _ [.int q2.1] (jh (jSrd S rd) q2.2) _
  obtain ⟨hz3, h⟩ := jw_chk h
  replace h := jw_some h
  exact xo_70 hz3 h
/-- OfDifferentMindsModel.refusesWalk, at ['m', 'int', 'int'] K -/
def f_X11_refusesWalk (x1 : Int32) (x2 : Int32) (σ : jT) : Option (Int32 × jT) :=
  (f_X11_isRider x1 σ).bind fun q1 =>
  if ¬ q1.1 = 0 then
    (f_X11_isOn_66 x1 q1.2).bind fun q3 =>
    if q3.1 = 0 then
      if jx_in (10 + x1) 28 then
      (f_X11_isWay (q3.2.2 66 (10 + x1).toNatClampNeg) x2 q3.2).bind fun q6 =>
      if q6.1 = 0 then
        some ((-3), q6.2)
      else
        some (0, q6.2)
      else none
    else
      some ((-2), q3.2)
  else
    some ((-1), q1.2)
theorem t_X11_refusesWalk {S : jS} (hS : jMok S) {d : Nat} {Q : Option Value → jx_H → Prop} {rd : Value} {x1 : Int32} {x2 : Int32} {σ : jT} (h : jw (f_X11_refusesWalk x1 x2 σ) (fun q => Q (some (.int q.1)) (jh (jSrd S rd) q.2))) : jx_Sp (d + 2) 251 [.ref 65, .int x1, .int x2] (jh (jSrd S rd) σ) Q := by
  refine ⟨jm_i251, jm_at251, rfl, rfl, ?_⟩
  show jx_Ex _ jm_l251 jm_b251_0 [.ref 65, .int x1, .int x2] [] _ _
  unfold f_X11_refusesWalk at h
  refine xo_2 rfl ?_
  refine xo_0 rfl ?_
  refine xo_49 (st' := []) rfl rfl (xm_ly (jSrd_ok hS rd) ly65) rfl (Nat.le_of_ble_eq_true rfl) ?_
  refine t_X11_isRider hS ?_
  refine jw_mono (jw_bind h) (fun q1 h => ?_)
  show jx_Ex _ _ _ _ [.int q1.1] (jh (jSrd S rd) q1.2) _
  refine xo_56 (t := jm_b251_10) rfl (fun hc2 => ?_) (fun hc2 => ?_)
  · replace h := jw_pos hc2 h
    refine xo_2 rfl ?_
    refine xm_33 (i := 4160) (q := 66) (jSrd_ok hS rd) ly65 rfl (xm_P (jSrd_ok hS rd) (by decide)) ?_
    refine xo_0 rfl ?_
    refine xo_50 (st' := []) rfl rfl rfl (Nat.le_of_ble_eq_true rfl) ?_
    refine t_X11_isOn_66 hS ?_
    refine jw_mono (jw_bind h) (fun q3 h => ?_)
    show jx_Ex _ _ _ _ [.int q3.1] (jh (jSrd S rd) q3.2) _
    refine xo_55 (t := jm_b251_24) rfl (fun hc4 => ?_) (fun hc4 => ?_)
    · replace h := jw_pos hc4 h
      refine xo_2 rfl ?_
      refine xo_2 rfl ?_
      refine xm_33 (i := 4160) (q := 66) (jSrd_ok hS rd) ly65 rfl (xm_P (jSrd_ok hS rd) (by decide)) ?_
      refine xo_9 ?_
      refine xo_0 rfl ?_
      refine xo_14 ?_
      obtain ⟨hi5, h⟩ := jw_chk h
      refine xm_38 (j := (10 + x1).toNatClampNeg) (v := (q3.2.2 66 (10 + x1).toNatClampNeg)) (jSrd_ok hS rd) ly66 ⟨Nat.le_of_ble_eq_true rfl, Nat.le_of_ble_eq_true rfl⟩ hi5 rfl rfl ?_
      refine xo_0 rfl ?_
      refine xo_49 (st' := []) rfl rfl (xm_ly (jSrd_ok hS rd) ly65) rfl (Nat.le_of_ble_eq_true rfl) ?_
      refine t_X11_isWay hS ?_
      refine jw_mono (jw_bind h) (fun q6 h => ?_)
      show jx_Ex _ _ _ _ [.int q6.1] (jh (jSrd S rd) q6.2) _
      refine xo_55 (t := jm_b251_45) rfl (fun hc7 => ?_) (fun hc7 => ?_)
      · replace h := jw_pos hc7 h
        refine xo_9 ?_
        replace h := jw_some h
        exact xo_69 h
      · replace h := jw_neg hc7 h
        refine xo_8 ?_
        refine xo_54 (t := jm_b251_47) rfl ?_
        replace h := jw_some h
        exact xo_69 h
    · replace h := jw_neg hc4 h
      refine xo_9 ?_
      replace h := jw_some h
      exact xo_69 h
  · replace h := jw_neg hc2 h
    refine xo_8 ?_
    replace h := jw_some h
    exact xo_69 h
/-- OfDifferentMindsModel.goWalk, at ['m', 'int', 'int'] K -/
def f_X11_goWalk (x1 : Int32) (x2 : Int32) (σ : jT) : Option (Int32 × jT) :=
  if jx_in (10 + x1) 28 then
  if jx_in ((3 * (σ.2 66 (10 + x1).toNatClampNeg)) + x2) 30 then
  some ((σ.2 68 ((3 * (σ.2 66 (10 + x1).toNatClampNeg)) + x2).toNatClampNeg), (gA σ 66 (10 + x1).toNatClampNeg (σ.2 68 ((3 * (σ.2 66 (10 + x1).toNatClampNeg)) + x2).toNatClampNeg)))
  else none
  else none
theorem t_X11_goWalk {S : jS} (hS : jMok S) {d : Nat} {Q : Option Value → jx_H → Prop} {rd : Value} {x1 : Int32} {x2 : Int32} {σ : jT} (h : jw (f_X11_goWalk x1 x2 σ) (fun q => Q (some (.int q.1)) (jh (jSrd S rd) q.2))) : jx_Sp (d) 252 [.ref 65, .int x1, .int x2] (jh (jSrd S rd) σ) Q := by
  refine ⟨jm_i252, jm_at252, rfl, rfl, ?_⟩
  show jx_Ex _ jm_l252 jm_b252_0 [.ref 65, .int x1, .int x2] [] _ _
  unfold f_X11_goWalk at h
  refine xo_2 rfl ?_
  refine xm_33 (i := 4160) (q := 66) (jSrd_ok hS rd) ly65 rfl (xm_P (jSrd_ok hS rd) (by decide)) ?_
  refine xo_9 ?_
  refine xo_0 rfl ?_
  refine xo_14 ?_
  refine xo_2 rfl ?_
  refine xm_33 (i := 4163) (q := 68) (jSrd_ok hS rd) ly65 rfl (xm_P (jSrd_ok hS rd) (by decide)) ?_
  refine xo_8 ?_
  refine xo_2 rfl ?_
  refine xm_33 (i := 4160) (q := 66) (jSrd_ok hS rd) ly65 rfl (xm_P (jSrd_ok hS rd) (by decide)) ?_
  refine xo_9 ?_
  refine xo_0 rfl ?_
  refine xo_14 ?_
  obtain ⟨hi1, h⟩ := jw_chk h
  refine xm_38 (j := (10 + x1).toNatClampNeg) (v := (σ.2 66 (10 + x1).toNatClampNeg)) (jSrd_ok hS rd) ly66 ⟨Nat.le_of_ble_eq_true rfl, Nat.le_of_ble_eq_true rfl⟩ hi1 rfl rfl ?_
  refine xo_16 ?_
  refine xo_0 rfl ?_
  refine xo_14 ?_
  obtain ⟨hi2, h⟩ := jw_chk h
  refine xm_38 (j := ((3 * (σ.2 66 (10 + x1).toNatClampNeg)) + x2).toNatClampNeg) (v := (σ.2 68 ((3 * (σ.2 66 (10 + x1).toNatClampNeg)) + x2).toNatClampNeg)) (jSrd_ok hS rd) ly68 ⟨Nat.le_of_ble_eq_true rfl, Nat.le_of_ble_eq_true rfl⟩ hi2 rfl rfl ?_
  refine xm_41 (j := (10 + x1).toNatClampNeg) (jSrd_ok hS rd) ly66 ⟨Nat.le_of_ble_eq_true rfl, Nat.le_of_ble_eq_true rfl⟩ hi1 rfl ?_
  refine xo_2 rfl ?_
  refine xm_33 (i := 4160) (q := 66) (jSrd_ok hS rd) ly65 rfl (xm_P (jSrd_ok hS rd) (by decide)) ?_
  refine xo_9 ?_
  refine xo_0 rfl ?_
  refine xo_14 ?_
  refine xm_38 (j := (10 + x1).toNatClampNeg) (v := (σ.2 68 ((3 * (σ.2 66 (10 + x1).toNatClampNeg)) + x2).toNatClampNeg)) (jSrd_ok hS rd) ly66 ⟨Nat.le_of_ble_eq_true rfl, Nat.le_of_ble_eq_true rfl⟩ hi1 rfl (by simp [gA, gs, jx_up2, jx_up]) ?_
  replace h := jw_some h
  exact xo_69 h
/-- OfDifferentMindsModel.walk, at ['m', 'int', 'int'] K -/
def f_X11_walk (x1 : Int32) (x2 : Int32) (σ : jT) : Option (Int32 × jT) :=
  (f_X11_refusesWalk x1 x2 (gs σ 4172 0)).bind fun q1 =>
  if 0 ≤ q1.1 then
    (f_X11_remember_66 q1.2).bind fun q3 =>
    (f_X11_goWalk x1 x2 q3.2).bind fun q4 =>
    some (q4.1, q4.2)
  else
    some (q1.1, q1.2)
theorem t_X11_walk {S : jS} (hS : jMok S) {d : Nat} {Q : Option Value → jx_H → Prop} {rd : Value} {x1 : Int32} {x2 : Int32} {σ : jT} (h : jw (f_X11_walk x1 x2 σ) (fun q => Q (some (.int q.1)) (jh (jSrd S rd) q.2))) : jx_Sp (d + 3) 253 [.ref 65, .int x1, .int x2] (jh (jSrd S rd) σ) Q := by
  refine ⟨jm_i253, jm_at253, rfl, rfl, ?_⟩
  show jx_Ex _ jm_l253 jm_b253_0 [.ref 65, .int x1, .int x2, .retAddr 0] [] _ _
  unfold f_X11_walk at h
  refine xo_2 rfl ?_
  refine xo_8 ?_
  refine xm_34 (i := 4172) (jSrd_ok hS rd) ly65 rfl ⟨Nat.le_of_ble_eq_true rfl, Nat.le_of_ble_eq_true rfl⟩ ?_
  refine xo_2 rfl ?_
  refine xo_0 rfl ?_
  refine xo_0 rfl ?_
  refine xo_49 (st' := []) rfl rfl (xm_ly (jSrd_ok hS rd) ly65) rfl (Nat.le_of_ble_eq_true rfl) ?_
  refine t_X11_refusesWalk hS ?_
  refine jw_mono (jw_bind h) (fun q1 h => ?_)
  show jx_Ex _ _ _ _ [.int q1.1] (jh (jSrd S rd) q1.2) _
  refine xo_4 (ls' := [.ref 65, .int x1, .int x2, .int q1.1]) rfl ?_
  refine xo_0 rfl ?_
  refine xo_58 (t := jm_b253_18) rfl (fun hc2 => ?_) (fun hc2 => ?_)
  · replace h := jw_pos hc2 h
    refine xo_2 rfl ?_
    refine xo_2 rfl ?_
    refine xm_33 (i := 4160) (q := 66) (jSrd_ok hS rd) ly65 rfl (xm_P (jSrd_ok hS rd) (by decide)) ?_
    refine xo_49 (st' := []) rfl rfl (xm_ly (jSrd_ok hS rd) ly65) rfl (Nat.le_of_ble_eq_true rfl) ?_
    refine t_X11_remember_66 hS ?_
    refine jw_mono (jw_bind h) (fun q3 h => ?_)
    show jx_Ex _ _ _ _ [] (jh (jSrd S rd) q3.2) _
    refine xo_2 rfl ?_
    refine xo_0 rfl ?_
    refine xo_0 rfl ?_
    refine xo_49 (st' := []) rfl rfl (xm_ly (jSrd_ok hS rd) ly65) rfl (Nat.le_of_ble_eq_true rfl) ?_
    refine t_X11_goWalk hS ?_
    refine jw_mono (jw_bind h) (fun q4 h => ?_)
    show jx_Ex _ _ _ _ [.int q4.1] (jh (jSrd S rd) q4.2) _
    replace h := jw_some h
    exact xo_69 h
  · replace h := jw_neg hc2 h
    refine xo_0 rfl ?_
    replace h := jw_some h
    exact xo_69 h
/-- OfDifferentMindsModel.refusesLead, at ['m', 'int', 'int'] K -/
def f_X11_refusesLead (x1 : Int32) (x2 : Int32) (σ : jT) : Option (Int32 × jT) :=
  (f_X11_isRider x1 σ).bind fun q1 =>
  if ¬ q1.1 = 0 then
    (f_X11_isRidden q1.2).bind fun q3 =>
    if q3.1 = 0 then
      (f_X11_isWay (q3.2.2 66 0) x2 q3.2).bind fun q5 =>
      if ¬ q5.1 = 0 then
        if jx_in (10 + x1) 28 then
        if ¬ (q5.2.2 66 (10 + x1).toNatClampNeg) = (q5.2.2 66 0) then
          some ((-4), q5.2)
        else
          some (0, q5.2)
        else none
      else
        some ((-3), q5.2)
    else
      some ((-2), q3.2)
  else
    some ((-1), q1.2)
theorem t_X11_refusesLead {S : jS} (hS : jMok S) {d : Nat} {Q : Option Value → jx_H → Prop} {rd : Value} {x1 : Int32} {x2 : Int32} {σ : jT} (h : jw (f_X11_refusesLead x1 x2 σ) (fun q => Q (some (.int q.1)) (jh (jSrd S rd) q.2))) : jx_Sp (d + 2) 254 [.ref 65, .int x1, .int x2] (jh (jSrd S rd) σ) Q := by
  refine ⟨jm_i254, jm_at254, rfl, rfl, ?_⟩
  show jx_Ex _ jm_l254 jm_b254_0 [.ref 65, .int x1, .int x2] [] _ _
  unfold f_X11_refusesLead at h
  refine xo_2 rfl ?_
  refine xo_0 rfl ?_
  refine xo_49 (st' := []) rfl rfl (xm_ly (jSrd_ok hS rd) ly65) rfl (Nat.le_of_ble_eq_true rfl) ?_
  refine t_X11_isRider hS ?_
  refine jw_mono (jw_bind h) (fun q1 h => ?_)
  show jx_Ex _ _ _ _ [.int q1.1] (jh (jSrd S rd) q1.2) _
  refine xo_56 (t := jm_b254_10) rfl (fun hc2 => ?_) (fun hc2 => ?_)
  · replace h := jw_pos hc2 h
    refine xo_2 rfl ?_
    refine xo_49 (st' := []) rfl rfl (xm_ly (jSrd_ok hS rd) ly65) rfl (Nat.le_of_ble_eq_true rfl) ?_
    refine t_X11_isRidden hS ?_
    refine jw_mono (jw_bind h) (fun q3 h => ?_)
    show jx_Ex _ _ _ _ [.int q3.1] (jh (jSrd S rd) q3.2) _
    refine xo_55 (t := jm_b254_20) rfl (fun hc4 => ?_) (fun hc4 => ?_)
    · replace h := jw_pos hc4 h
      refine xo_2 rfl ?_
      refine xo_2 rfl ?_
      refine xm_33 (i := 4160) (q := 66) (jSrd_ok hS rd) ly65 rfl (xm_P (jSrd_ok hS rd) (by decide)) ?_
      refine xo_8 ?_
      refine xm_38 (j := 0) (v := (q3.2.2 66 0)) (jSrd_ok hS rd) ly66 ⟨Nat.le_of_ble_eq_true rfl, Nat.le_of_ble_eq_true rfl⟩ (by decide) (by decide) rfl ?_
      refine xo_0 rfl ?_
      refine xo_49 (st' := []) rfl rfl (xm_ly (jSrd_ok hS rd) ly65) rfl (Nat.le_of_ble_eq_true rfl) ?_
      refine t_X11_isWay hS ?_
      refine jw_mono (jw_bind h) (fun q5 h => ?_)
      show jx_Ex _ _ _ _ [.int q5.1] (jh (jSrd S rd) q5.2) _
      refine xo_56 (t := jm_b254_37) rfl (fun hc6 => ?_) (fun hc6 => ?_)
      · replace h := jw_pos hc6 h
        refine xo_2 rfl ?_
        refine xm_33 (i := 4160) (q := 66) (jSrd_ok hS rd) ly65 rfl (xm_P (jSrd_ok hS rd) (by decide)) ?_
        refine xo_9 ?_
        refine xo_0 rfl ?_
        refine xo_14 ?_
        obtain ⟨hi7, h⟩ := jw_chk h
        refine xm_38 (j := (10 + x1).toNatClampNeg) (v := (q5.2.2 66 (10 + x1).toNatClampNeg)) (jSrd_ok hS rd) ly66 ⟨Nat.le_of_ble_eq_true rfl, Nat.le_of_ble_eq_true rfl⟩ hi7 rfl rfl ?_
        refine xo_2 rfl ?_
        refine xm_33 (i := 4160) (q := 66) (jSrd_ok hS rd) ly65 rfl (xm_P (jSrd_ok hS rd) (by decide)) ?_
        refine xo_8 ?_
        refine xm_38 (j := 0) (v := (q5.2.2 66 0)) (jSrd_ok hS rd) ly66 ⟨Nat.le_of_ble_eq_true rfl, Nat.le_of_ble_eq_true rfl⟩ (by decide) (by decide) rfl ?_
        refine xo_62 (t := jm_b254_59) rfl (fun hc8 => ?_) (fun hc8 => ?_)
        · replace h := jw_pos hc8 h
          refine xo_9 ?_
          replace h := jw_some h
          exact xo_69 h
        · replace h := jw_neg hc8 h
          refine xo_8 ?_
          refine xo_54 (t := jm_b254_61) rfl ?_
          replace h := jw_some h
          exact xo_69 h
      · replace h := jw_neg hc6 h
        refine xo_9 ?_
        replace h := jw_some h
        exact xo_69 h
    · replace h := jw_neg hc4 h
      refine xo_9 ?_
      replace h := jw_some h
      exact xo_69 h
  · replace h := jw_neg hc2 h
    refine xo_8 ?_
    replace h := jw_some h
    exact xo_69 h
/-- OfDifferentMindsModel.goLead, at ['m', 'int', 'int'] K -/
def f_X11_goLead (x1 : Int32) (x2 : Int32) (σ : jT) : Option (Int32 × jT) :=
  (f_X11_goWalk x1 x2 σ).bind fun q1 =>
  some (q1.1, (gA q1.2 66 0 q1.1))
theorem t_X11_goLead {S : jS} (hS : jMok S) {d : Nat} {Q : Option Value → jx_H → Prop} {rd : Value} {x1 : Int32} {x2 : Int32} {σ : jT} (h : jw (f_X11_goLead x1 x2 σ) (fun q => Q (some (.int q.1)) (jh (jSrd S rd) q.2))) : jx_Sp (d + 1) 255 [.ref 65, .int x1, .int x2] (jh (jSrd S rd) σ) Q := by
  refine ⟨jm_i255, jm_at255, rfl, rfl, ?_⟩
  show jx_Ex _ jm_l255 jm_b255_0 [.ref 65, .int x1, .int x2] [] _ _
  unfold f_X11_goLead at h
  refine xo_2 rfl ?_
  refine xm_33 (i := 4160) (q := 66) (jSrd_ok hS rd) ly65 rfl (xm_P (jSrd_ok hS rd) (by decide)) ?_
  refine xo_8 ?_
  refine xo_2 rfl ?_
  refine xo_0 rfl ?_
  refine xo_0 rfl ?_
  refine xo_49 (st' := [.int 0, .ref 66]) rfl rfl (xm_ly (jSrd_ok hS rd) ly65) rfl (Nat.le_of_ble_eq_true rfl) ?_
  refine t_X11_goWalk hS ?_
  refine jw_mono (jw_bind h) (fun q1 h => ?_)
  show jx_Ex _ _ _ _ [.int q1.1, .int 0, .ref 66] (jh (jSrd S rd) q1.2) _
  refine xm_41 (j := 0) (jSrd_ok hS rd) ly66 ⟨Nat.le_of_ble_eq_true rfl, Nat.le_of_ble_eq_true rfl⟩ (by decide) (by decide) ?_
  refine xo_2 rfl ?_
  refine xm_33 (i := 4160) (q := 66) (jSrd_ok hS rd) ly65 rfl (xm_P (jSrd_ok hS rd) (by decide)) ?_
  refine xo_8 ?_
  refine xm_38 (j := 0) (v := q1.1) (jSrd_ok hS rd) ly66 ⟨Nat.le_of_ble_eq_true rfl, Nat.le_of_ble_eq_true rfl⟩ (by decide) (by decide) rfl ?_
  replace h := jw_some h
  exact xo_69 h
/-- OfDifferentMindsModel.lead, at ['m', 'int', 'int'] K -/
def f_X11_lead (x1 : Int32) (x2 : Int32) (σ : jT) : Option (Int32 × jT) :=
  (f_X11_refusesLead x1 x2 (gs σ 4172 0)).bind fun q1 =>
  if 0 ≤ q1.1 then
    (f_X11_remember_66 q1.2).bind fun q3 =>
    (f_X11_goLead x1 x2 q3.2).bind fun q4 =>
    some (q4.1, q4.2)
  else
    some (q1.1, q1.2)
theorem t_X11_lead {S : jS} (hS : jMok S) {d : Nat} {Q : Option Value → jx_H → Prop} {rd : Value} {x1 : Int32} {x2 : Int32} {σ : jT} (h : jw (f_X11_lead x1 x2 σ) (fun q => Q (some (.int q.1)) (jh (jSrd S rd) q.2))) : jx_Sp (d + 3) 256 [.ref 65, .int x1, .int x2] (jh (jSrd S rd) σ) Q := by
  refine ⟨jm_i256, jm_at256, rfl, rfl, ?_⟩
  show jx_Ex _ jm_l256 jm_b256_0 [.ref 65, .int x1, .int x2, .retAddr 0] [] _ _
  unfold f_X11_lead at h
  refine xo_2 rfl ?_
  refine xo_8 ?_
  refine xm_34 (i := 4172) (jSrd_ok hS rd) ly65 rfl ⟨Nat.le_of_ble_eq_true rfl, Nat.le_of_ble_eq_true rfl⟩ ?_
  refine xo_2 rfl ?_
  refine xo_0 rfl ?_
  refine xo_0 rfl ?_
  refine xo_49 (st' := []) rfl rfl (xm_ly (jSrd_ok hS rd) ly65) rfl (Nat.le_of_ble_eq_true rfl) ?_
  refine t_X11_refusesLead hS ?_
  refine jw_mono (jw_bind h) (fun q1 h => ?_)
  show jx_Ex _ _ _ _ [.int q1.1] (jh (jSrd S rd) q1.2) _
  refine xo_4 (ls' := [.ref 65, .int x1, .int x2, .int q1.1]) rfl ?_
  refine xo_0 rfl ?_
  refine xo_58 (t := jm_b256_18) rfl (fun hc2 => ?_) (fun hc2 => ?_)
  · replace h := jw_pos hc2 h
    refine xo_2 rfl ?_
    refine xo_2 rfl ?_
    refine xm_33 (i := 4160) (q := 66) (jSrd_ok hS rd) ly65 rfl (xm_P (jSrd_ok hS rd) (by decide)) ?_
    refine xo_49 (st' := []) rfl rfl (xm_ly (jSrd_ok hS rd) ly65) rfl (Nat.le_of_ble_eq_true rfl) ?_
    refine t_X11_remember_66 hS ?_
    refine jw_mono (jw_bind h) (fun q3 h => ?_)
    show jx_Ex _ _ _ _ [] (jh (jSrd S rd) q3.2) _
    refine xo_2 rfl ?_
    refine xo_0 rfl ?_
    refine xo_0 rfl ?_
    refine xo_49 (st' := []) rfl rfl (xm_ly (jSrd_ok hS rd) ly65) rfl (Nat.le_of_ble_eq_true rfl) ?_
    refine t_X11_goLead hS ?_
    refine jw_mono (jw_bind h) (fun q4 h => ?_)
    show jx_Ex _ _ _ _ [.int q4.1] (jh (jSrd S rd) q4.2) _
    replace h := jw_some h
    exact xo_69 h
  · replace h := jw_neg hc2 h
    refine xo_0 rfl ?_
    replace h := jw_some h
    exact xo_69 h
