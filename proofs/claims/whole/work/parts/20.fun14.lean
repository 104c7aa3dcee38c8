/-! ===== methods as functions ===== -/
/-- OfDifferentMindsModel.prints, at ['m'] K -/
def f_X11_prints_b69 : Nat → Int32 → Int32 → jT → Option (Int32 × jT)
  | 0, _, _, _ => none
  | n + 1, x1, x2, σ =>
    if x1 ≤ x2 then
      some (x1, (gs σ 4203 x1))
    else
      if jx_in x2 80 then
      if jx_in x2 20 then
      f_X11_prints_b69 n x1 (x2 + 1) (gA σ 88 x2.toNatClampNeg ((σ.2 71 x2.toNatClampNeg) - 97))
      else none
      else none
def f_X11_prints_b17 : Nat → Int32 → Int32 → jT → Option (Int32 × jT)
  | 0, _, _, _ => none
  | n + 1, x1, x2, σ =>
    if x1 ≤ x2 then
      if ¬ x1 = 0 then
        f_X11_prints_b69 1000 x1 0 σ
      else
        some ((-1), σ)
    else
      if x2 = 20 then
        some (((-1) - x2), σ)
      else
        if jx_in x2 80 then
        (f_X11_in (σ.2 71 x2.toNatClampNeg) 97 ((97 + (σ.1 4161)) - 1) σ).bind fun q5 =>
        if ¬ q5.1 = 0 then
          f_X11_prints_b17 n x1 (x2 + 1) q5.2
        else
          some (((-1) - x2), q5.2)
        else none
def f_X11_prints (σ : jT) : Option (Int32 × jT) :=
  f_X11_prints_b17 1000 (σ.1 4169) 0 (gs (gs σ 4172 0) 4169 0)
theorem t_X11_prints_b69 {S : jS} (hS : jMok S) {d : Nat} {Q : Option Value → jx_H → Prop} {rd : Value} : ∀ (n : Nat) {x1 : Int32} {x2 : Int32} {σ : jT}, jw (f_X11_prints_b69 n x1 x2 σ) (fun q => Q (some (.int q.1)) (jh (jSrd S rd) q.2)) → jx_Ex (d + 1) jm_l296 jm_b296_69 [.ref 65, .int x1, .int x2] [] (jh (jSrd S rd) σ) Q := by
  intro n
  induction n with
  | zero => intro x1 x2 σ h; exact jw_none h
  | succ n ih =>
    intro x1 x2 σ h
    rw [f_X11_prints_b69] at h
    refine xo_0 rfl ?_
    refine xo_0 rfl ?_
    refine xo_64 (t := jm_b296_95) rfl (fun hc1 => ?_) (fun hc1 => ?_)
    · replace h := jw_pos hc1 h
      refine xo_2 rfl ?_
      refine xo_0 rfl ?_
      refine xm_34 (i := 4203) (jSrd_ok hS rd) ly65 rfl ⟨Nat.le_of_ble_eq_true rfl, Nat.le_of_ble_eq_true rfl⟩ ?_
      refine xo_0 rfl ?_
      replace h := jw_some h
      exact xo_69 h
    · replace h := jw_neg hc1 h
      refine xo_2 rfl ?_
      refine xm_33 (i := 4202) (q := 88) (jSrd_ok hS rd) ly65 rfl (xm_P (jSrd_ok hS rd) (by decide)) ?_
      refine xo_0 rfl ?_
      refine xo_2 rfl ?_
      refine xm_33 (i := 4168) (q := 71) (jSrd_ok hS rd) ly65 rfl (xm_P (jSrd_ok hS rd) (by decide)) ?_
      refine xo_0 rfl ?_
      obtain ⟨hi2, h⟩ := jw_chk h
      refine xm_39 (j := x2.toNatClampNeg) (v := (σ.2 71 x2.toNatClampNeg)) (jSrd_ok hS rd) (Or.inl ly71) ⟨Nat.le_of_ble_eq_true rfl, Nat.le_of_ble_eq_true rfl⟩ hi2 rfl rfl ?_
      refine xo_9 ?_
      refine xo_15 ?_
      obtain ⟨hi3, h⟩ := jw_chk h
      refine xm_41 (j := x2.toNatClampNeg) (jSrd_ok hS rd) ly88 ⟨Nat.le_of_ble_eq_true rfl, Nat.le_of_ble_eq_true rfl⟩ hi3 rfl ?_
      refine xo_13 (ls' := [.ref 65, .int x1, .int (x2 + 1)]) rfl rfl ?_
      refine xo_54 (t := jm_b296_69) rfl ?_
      exact ih h
theorem t_X11_prints_b17 {S : jS} (hS : jMok S) {d : Nat} {Q : Option Value → jx_H → Prop} {rd : Value} : ∀ (n : Nat) {x1 : Int32} {x2 : Int32} {σ : jT}, jw (f_X11_prints_b17 n x1 x2 σ) (fun q => Q (some (.int q.1)) (jh (jSrd S rd) q.2)) → jx_Ex (d + 1) jm_l296 jm_b296_17 [.ref 65, .int x1, .int x2] [] (jh (jSrd S rd) σ) Q := by
  intro n
  induction n with
  | zero => intro x1 x2 σ h; exact jw_none h
  | succ n ih =>
    intro x1 x2 σ h
    rw [f_X11_prints_b17] at h
    refine xo_0 rfl ?_
    refine xo_0 rfl ?_
    refine xo_64 (t := jm_b296_61) rfl (fun hc1 => ?_) (fun hc1 => ?_)
    · replace h := jw_pos hc1 h
      refine xo_0 rfl ?_
      refine xo_56 (t := jm_b296_67) rfl (fun hc2 => ?_) (fun hc2 => ?_)
      · replace h := jw_pos hc2 h
        refine xo_8 ?_
        refine xo_4 (ls' := [.ref 65, .int x1, .int 0]) rfl ?_
        exact t_X11_prints_b69 hS 1000 h
      · replace h := jw_neg hc2 h
        refine xo_8 ?_
        replace h := jw_some h
        exact xo_69 h
    · replace h := jw_neg hc1 h
      refine xo_0 rfl ?_
      refine xo_9 ?_
      refine xo_61 (t := jm_b296_51) rfl (fun hc3 => ?_) (fun hc3 => ?_)
      · replace h := jw_pos hc3 h
        refine xo_8 ?_
        refine xo_0 rfl ?_
        refine xo_15 ?_
        replace h := jw_some h
        exact xo_69 h
      · replace h := jw_neg hc3 h
        refine xo_2 rfl ?_
        refine xm_33 (i := 4168) (q := 71) (jSrd_ok hS rd) ly65 rfl (xm_P (jSrd_ok hS rd) (by decide)) ?_
        refine xo_0 rfl ?_
        obtain ⟨hi4, h⟩ := jw_chk h
        refine xm_39 (j := x2.toNatClampNeg) (v := (σ.2 71 x2.toNatClampNeg)) (jSrd_ok hS rd) (Or.inl ly71) ⟨Nat.le_of_ble_eq_true rfl, Nat.le_of_ble_eq_true rfl⟩ hi4 rfl rfl ?_
        refine xo_9 ?_
        refine xo_9 ?_
        refine xo_2 rfl ?_
        refine xm_32 (i := 4161) (v := (σ.1 4161)) (jSrd_ok hS rd) ly65 rfl ⟨Nat.le_of_ble_eq_true rfl, Nat.le_of_ble_eq_true rfl⟩ rfl ?_
        refine xo_14 ?_
        refine xo_8 ?_
        refine xo_15 ?_
        refine xo_50 (st' := []) rfl rfl rfl (Nat.le_of_ble_eq_true rfl) ?_
        refine t_X11_in hS ?_
        refine jw_mono (jw_bind h) (fun q5 h => ?_)
        show jx_Ex _ _ _ _ [.int q5.1] (jh (jSrd S rd) q5.2) _
        refine xo_56 (t := jm_b296_55) rfl (fun hc6 => ?_) (fun hc6 => ?_)
        · replace h := jw_pos hc6 h
          refine xo_13 (ls' := [.ref 65, .int x1, .int (x2 + 1)]) rfl rfl ?_
          refine xo_54 (t := jm_b296_17) rfl ?_
          exact ih h
        · replace h := jw_neg hc6 h
          refine xo_8 ?_
          refine xo_0 rfl ?_
          refine xo_15 ?_
          replace h := jw_some h
          exact xo_69 h
theorem t_X11_prints {S : jS} (hS : jMok S) {d : Nat} {Q : Option Value → jx_H → Prop} {rd : Value} {σ : jT} (h : jw (f_X11_prints σ) (fun q => Q (some (.int q.1)) (jh (jSrd S rd) q.2))) : jx_Sp (d + 1) 296 [.ref 65] (jh (jSrd S rd) σ) Q := by
  refine ⟨jm_i296, jm_at296, rfl, rfl, ?_⟩
  show jx_Ex _ jm_l296 jm_b296_0 [.ref 65, .retAddr 0, .retAddr 0] [] _ _
  unfold f_X11_prints at h
  refine xo_2 rfl ?_
  refine xo_8 ?_
  refine xm_34 (i := 4172) (jSrd_ok hS rd) ly65 rfl ⟨Nat.le_of_ble_eq_true rfl, Nat.le_of_ble_eq_true rfl⟩ ?_
  refine xo_2 rfl ?_
  refine xm_32 (i := 4169) (v := (σ.1 4169)) (jSrd_ok hS rd) ly65 rfl ⟨Nat.le_of_ble_eq_true rfl, Nat.le_of_ble_eq_true rfl⟩ rfl ?_
  refine xo_4 (ls' := [.ref 65, .int (σ.1 4169), .retAddr 0]) rfl ?_
  refine xo_2 rfl ?_
  refine xo_8 ?_
  refine xm_34 (i := 4169) (jSrd_ok hS rd) ly65 rfl ⟨Nat.le_of_ble_eq_true rfl, Nat.le_of_ble_eq_true rfl⟩ ?_
  refine xo_8 ?_
  refine xo_4 (ls' := [.ref 65, .int (σ.1 4169), .int 0]) rfl ?_
  exact t_X11_prints_b17 hS 1000 h
/-- OfDifferentMindsModel.isPrinted, at ['m', 'int', 'int'] U -/
def f_X11_isPrinted_b15 : Nat → Int32 → jT → Option (Int32 × jT)
  | 0, _, _ => none
  | n + 1, x3, σ =>
    if (σ.1 4203) ≤ x3 then
      some (1, σ)
    else
      (f_X11_step_82 σ).bind fun q2 =>
      if q2.1 = 0 then
        some (0, q2.2)
      else
        if jx_in x3 20 then
        if (q2.2.2 82 0) = (q2.2.2 88 x3.toNatClampNeg) then
          f_X11_isPrinted_b15 n (x3 + 1) q2.2
        else
          some (0, q2.2)
        else none
def f_X11_isPrinted (x1 : Int32) (x2 : Int32) (σ : jT) : Option (Int32 × jT) :=
  (f_X11_mountThen x1 x2 (σ.2 88 0) 0 σ).bind fun q1 =>
  f_X11_isPrinted_b15 1000 1 q1.2
theorem t_X11_isPrinted_b15 {S : jS} (hS : jMok S) {d : Nat} {Q : Option Value → jx_H → Prop} : ∀ (n : Nat) {rd : Value} {x3 : Int32} {w1 : Value} {w2 : Value} {σ : jT}, jw (f_X11_isPrinted_b15 n x3 σ) (fun q => ∀ rd : Value, Q (some (.int q.1)) (jh (jSrd S rd) q.2)) → jx_Ex (d + 107) jm_l297 jm_b297_15 [.ref 65, w1, w2, .int x3] [] (jh (jSrd S rd) σ) Q := by
  intro n
  induction n with
  | zero => intro rd x3 w1 w2 σ h; exact jw_none h
  | succ n ih =>
    intro rd x3 w1 w2 σ h
    rw [f_X11_isPrinted_b15] at h
    refine xo_0 rfl ?_
    refine xo_2 rfl ?_
    refine xm_32 (i := 4203) (v := (σ.1 4203)) (jSrd_ok hS rd) ly65 rfl ⟨Nat.le_of_ble_eq_true rfl, Nat.le_of_ble_eq_true rfl⟩ rfl ?_
    refine xo_64 (t := jm_b297_57) rfl (fun hc1 => ?_) (fun hc1 => ?_)
    · replace h := jw_pos hc1 h
      refine xo_8 ?_
      replace h := jw_some h
      exact xo_70 (by decide) (h rd)
    · replace h := jw_neg hc1 h
      refine xo_2 rfl ?_
      refine xo_2 rfl ?_
      refine xm_33 (i := 4194) (q := 82) (jSrd_ok hS rd) ly65 rfl (xm_P (jSrd_ok hS rd) (by decide)) ?_
      refine xo_49 (st' := []) rfl rfl (xm_ly (jSrd_ok hS rd) ly65) rfl (Nat.le_of_ble_eq_true rfl) ?_
      refine t_X11_step_82 hS ?_
      refine jw_mono (jw_bind h) (fun q2 h rd3 => ?_)
      show jx_Ex _ _ _ _ [.int q2.1] (jh (jSrd S rd3) q2.2) _
      refine xo_55 (t := jm_b297_49) rfl (fun hc4 => ?_) (fun hc4 => ?_)
      · replace h := jw_pos hc4 h
        refine xo_8 ?_
        replace h := jw_some h
        exact xo_70 (by decide) (h rd3)
      · replace h := jw_neg hc4 h
        refine xo_2 rfl ?_
        refine xm_33 (i := 4194) (q := 82) (jSrd_ok hS rd3) ly65 rfl (xm_P (jSrd_ok hS rd3) (by decide)) ?_
        refine xo_8 ?_
        refine xm_38 (j := 0) (v := (q2.2.2 82 0)) (jSrd_ok hS rd3) ly82 ⟨Nat.le_of_ble_eq_true rfl, Nat.le_of_ble_eq_true rfl⟩ (by decide) (by decide) rfl ?_
        refine xo_2 rfl ?_
        refine xm_33 (i := 4202) (q := 88) (jSrd_ok hS rd3) ly65 rfl (xm_P (jSrd_ok hS rd3) (by decide)) ?_
        refine xo_0 rfl ?_
        obtain ⟨hi5, h⟩ := jw_chk h
        refine xm_38 (j := x3.toNatClampNeg) (v := (q2.2.2 88 x3.toNatClampNeg)) (jSrd_ok hS rd3) ly88 ⟨Nat.le_of_ble_eq_true rfl, Nat.le_of_ble_eq_true rfl⟩ hi5 rfl rfl ?_
        refine xo_61 (t := jm_b297_51) rfl (fun hc6 => ?_) (fun hc6 => ?_)
        · replace h := jw_pos hc6 h
          refine xo_13 (ls' := [.ref 65, w1, w2, .int (x3 + 1)]) rfl rfl ?_
          refine xo_54 (t := jm_b297_15) rfl ?_
          exact ih h
        · replace h := jw_neg hc6 h
          refine xo_8 ?_
          replace h := jw_some h
          exact xo_70 (by decide) (h rd3)
theorem t_X11_isPrinted {S : jS} (hS : jMok S) {d : Nat} {Q : Option Value → jx_H → Prop} {rd : Value} {x1 : Int32} {x2 : Int32} {σ : jT} (h : jw (f_X11_isPrinted x1 x2 σ) (fun q => ∀ rd : Value, Q (some (.int q.1)) (jh (jSrd S rd) q.2))) : jx_Sp (d + 107) 297 [.ref 65, .int x1, .int x2] (jh (jSrd S rd) σ) Q := by
  refine ⟨jm_i297, jm_at297, rfl, rfl, ?_⟩
  show jx_Ex _ jm_l297 jm_b297_0 [.ref 65, .int x1, .int x2, .retAddr 0] [] _ _
  unfold f_X11_isPrinted at h
  refine xo_2 rfl ?_
  refine xo_0 rfl ?_
  refine xo_0 rfl ?_
  refine xo_2 rfl ?_
  refine xm_33 (i := 4202) (q := 88) (jSrd_ok hS rd) ly65 rfl (xm_P (jSrd_ok hS rd) (by decide)) ?_
  refine xo_8 ?_
  refine xm_38 (j := 0) (v := (σ.2 88 0)) (jSrd_ok hS rd) ly88 ⟨Nat.le_of_ble_eq_true rfl, Nat.le_of_ble_eq_true rfl⟩ (by decide) (by decide) rfl ?_
  refine xo_8 ?_
  refine xo_49 (st' := []) rfl rfl (xm_ly (jSrd_ok hS rd) ly65) rfl (Nat.le_of_ble_eq_true rfl) ?_
  refine t_X11_mountThen hS ?_
  refine jw_mono (jw_bind h) (fun q1 h => ?_)
  show jx_Ex _ _ _ _ [] (jh (jSrd S rd) q1.2) _
  refine xo_8 ?_
  refine xo_4 (ls' := [.ref 65, .int x1, .int x2, .int 1]) rfl ?_
  exact t_X11_isPrinted_b15 hS 1000 h
/-- OfDifferentMindsModel.fits, at ['m'] U -/
def f_X11_fits_b76 (k34 : Int32 → Int32 → Int32 → jT → Option (Int32 × jT)) (x1 : Int32) (x2 : Int32) (x3 : Int32) (σ : jT) : Option (Int32 × jT) :=
  k34 x1 x2 (x3 + 1) σ
def f_X11_fits_b73 (k34 : Int32 → Int32 → Int32 → jT → Option (Int32 × jT)) (x1 : Int32) (x2 : Int32) (x3 : Int32) (σ : jT) : Option (Int32 × jT) :=
  f_X11_fits_b76 k34 (x1 + 1) x2 x3 σ
def f_X11_fits_b34 (k24 : Int32 → Int32 → jT → Option (Int32 × jT)) : Nat → Int32 → Int32 → Int32 → jT → Option (Int32 × jT)
  | 0, _, _, _, _ => none
  | n + 1, x1, x2, x3, σ =>
    if (σ.1 4165) ≤ x3 then
      k24 x1 (x2 + 1) σ
    else
      if x2 = x3 then
        f_X11_fits_b76 (f_X11_fits_b34 k24 n) x1 x2 x3 σ
      else
        (f_X11_isPrinted x2 x3 σ).bind fun q3 =>
        if ¬ q3.1 = 0 then
          if ¬ x1 = 0 then
            f_X11_fits_b73 (f_X11_fits_b34 k24 n) x1 x2 x3 q3.2
          else
            (f_X11_tell x2 q3.2).bind fun q7 =>
            (f_X11_tell x3 q7.2).bind fun q8 =>
            f_X11_fits_b73 (f_X11_fits_b34 k24 n) x1 x2 x3 q8.2
        else
          f_X11_fits_b76 (f_X11_fits_b34 k24 n) x1 x2 x3 q3.2
def f_X11_fits_b24 : Nat → Int32 → Int32 → jT → Option (Int32 × jT)
  | 0, _, _, _ => none
  | n + 1, x1, x2, σ =>
    if (σ.1 4165) ≤ x2 then
      some (x1, σ)
    else
      f_X11_fits_b34 (f_X11_fits_b24 n) 1000 x1 x2 0 σ
def f_X11_fits (σ : jT) : Option (Int32 × jT) :=
  if ¬ (σ.1 4203) = 0 then
    f_X11_fits_b24 1000 0 0 (gs (gs σ 4172 0) 4171 0)
  else
    some ((-2), (gs σ 4172 0))
theorem t_X11_fits_b76 {S : jS} (hS : jMok S) {d : Nat} {Q : Option Value → jx_H → Prop} {k34 : Int32 → Int32 → Int32 → jT → Option (Int32 × jT)} (hk34 : ∀ {rd : Value} {x1 : Int32} {x2 : Int32} {x3 : Int32} {σ : jT}, jw (k34 x1 x2 x3 σ) (fun q => ∀ rd : Value, Q (some (.int q.1)) (jh (jSrd S rd) q.2)) → jx_Ex (d + 108) jm_l298 jm_b298_34 [.ref 65, .int x1, .int x2, .int x3] [] (jh (jSrd S rd) σ) Q) {rd : Value} {x1 : Int32} {x2 : Int32} {x3 : Int32} {σ : jT} (h : jw (f_X11_fits_b76 k34 x1 x2 x3 σ) (fun q => ∀ rd : Value, Q (some (.int q.1)) (jh (jSrd S rd) q.2))) : jx_Ex (d + 108) jm_l298 jm_b298_76 [.ref 65, .int x1, .int x2, .int x3] [] (jh (jSrd S rd) σ) Q := by
  unfold f_X11_fits_b76 at h
  refine xo_13 (ls' := [.ref 65, .int x1, .int x2, .int (x3 + 1)]) rfl rfl ?_
  refine xo_54 (t := jm_b298_34) rfl ?_
  exact hk34 h
theorem t_X11_fits_b73 {S : jS} (hS : jMok S) {d : Nat} {Q : Option Value → jx_H → Prop} {k34 : Int32 → Int32 → Int32 → jT → Option (Int32 × jT)} (hk34 : ∀ {rd : Value} {x1 : Int32} {x2 : Int32} {x3 : Int32} {σ : jT}, jw (k34 x1 x2 x3 σ) (fun q => ∀ rd : Value, Q (some (.int q.1)) (jh (jSrd S rd) q.2)) → jx_Ex (d + 108) jm_l298 jm_b298_34 [.ref 65, .int x1, .int x2, .int x3] [] (jh (jSrd S rd) σ) Q) {rd : Value} {x1 : Int32} {x2 : Int32} {x3 : Int32} {σ : jT} (h : jw (f_X11_fits_b73 k34 x1 x2 x3 σ) (fun q => ∀ rd : Value, Q (some (.int q.1)) (jh (jSrd S rd) q.2))) : jx_Ex (d + 108) jm_l298 jm_b298_73 [.ref 65, .int x1, .int x2, .int x3] [] (jh (jSrd S rd) σ) Q := by
  unfold f_X11_fits_b73 at h
  refine xo_13 (ls' := [.ref 65, .int (x1 + 1), .int x2, .int x3]) rfl rfl ?_
  exact t_X11_fits_b76 hS hk34 h
theorem t_X11_fits_b34 {S : jS} (hS : jMok S) {d : Nat} {Q : Option Value → jx_H → Prop} {k24 : Int32 → Int32 → jT → Option (Int32 × jT)} (hk24 : ∀ {rd : Value} {x1 : Int32} {x2 : Int32} {w3 : Value} {σ : jT}, jw (k24 x1 x2 σ) (fun q => ∀ rd : Value, Q (some (.int q.1)) (jh (jSrd S rd) q.2)) → jx_Ex (d + 108) jm_l298 jm_b298_24 [.ref 65, .int x1, .int x2, w3] [] (jh (jSrd S rd) σ) Q) : ∀ (n : Nat) {rd : Value} {x1 : Int32} {x2 : Int32} {x3 : Int32} {σ : jT}, jw (f_X11_fits_b34 k24 n x1 x2 x3 σ) (fun q => ∀ rd : Value, Q (some (.int q.1)) (jh (jSrd S rd) q.2)) → jx_Ex (d + 108) jm_l298 jm_b298_34 [.ref 65, .int x1, .int x2, .int x3] [] (jh (jSrd S rd) σ) Q := by
  intro n
  induction n with
  | zero => intro rd x1 x2 x3 σ h; exact jw_none h
  | succ n ih =>
    intro rd x1 x2 x3 σ h
    rw [f_X11_fits_b34] at h
    refine xo_0 rfl ?_
    refine xo_2 rfl ?_
    refine xm_32 (i := 4165) (v := (σ.1 4165)) (jSrd_ok hS rd) ly65 rfl ⟨Nat.le_of_ble_eq_true rfl, Nat.le_of_ble_eq_true rfl⟩ rfl ?_
    refine xo_64 (t := jm_b298_82) rfl (fun hc1 => ?_) (fun hc1 => ?_)
    · replace h := jw_pos hc1 h
      refine xo_13 (ls' := [.ref 65, .int x1, .int (x2 + 1), .int x3]) rfl rfl ?_
      refine xo_54 (t := jm_b298_24) rfl ?_
      exact hk24 h
    · replace h := jw_neg hc1 h
      refine xo_0 rfl ?_
      refine xo_0 rfl ?_
      refine xo_61 (t := jm_b298_76) rfl (fun hc2 => ?_) (fun hc2 => ?_)
      · replace h := jw_pos hc2 h
        exact t_X11_fits_b76 hS ih h
      · replace h := jw_neg hc2 h
        refine xo_2 rfl ?_
        refine xo_0 rfl ?_
        refine xo_0 rfl ?_
        refine xo_49 (st' := []) rfl rfl (xm_ly (jSrd_ok hS rd) ly65) rfl (Nat.le_of_ble_eq_true rfl) ?_
        refine t_X11_isPrinted hS ?_
        refine jw_mono (jw_bind h) (fun q3 h rd4 => ?_)
        show jx_Ex _ _ _ _ [.int q3.1] (jh (jSrd S rd4) q3.2) _
        refine xo_56 (t := jm_b298_59) rfl (fun hc5 => ?_) (fun hc5 => ?_)
        · replace h := jw_pos hc5 h
          refine xo_0 rfl ?_
          refine xo_56 (t := jm_b298_73) rfl (fun hc6 => ?_) (fun hc6 => ?_)
          · replace h := jw_pos hc6 h
            exact t_X11_fits_b73 hS ih h
          · replace h := jw_neg hc6 h
            refine xo_2 rfl ?_
            refine xo_0 rfl ?_
            refine xo_49 (st' := []) rfl rfl (xm_ly (jSrd_ok hS rd4) ly65) rfl (Nat.le_of_ble_eq_true rfl) ?_
            refine t_X11_tell hS ?_
            refine jw_mono (jw_bind h) (fun q7 h => ?_)
            show jx_Ex _ _ _ _ [] (jh (jSrd S rd4) q7.2) _
            refine xo_2 rfl ?_
            refine xo_0 rfl ?_
            refine xo_49 (st' := []) rfl rfl (xm_ly (jSrd_ok hS rd4) ly65) rfl (Nat.le_of_ble_eq_true rfl) ?_
            refine t_X11_tell hS ?_
            refine jw_mono (jw_bind h) (fun q8 h => ?_)
            show jx_Ex _ _ _ _ [] (jh (jSrd S rd4) q8.2) _
            exact t_X11_fits_b73 hS ih h
        · replace h := jw_neg hc5 h
          refine xo_54 (t := jm_b298_76) rfl ?_
          exact t_X11_fits_b76 hS ih h
theorem t_X11_fits_b24 {S : jS} (hS : jMok S) {d : Nat} {Q : Option Value → jx_H → Prop} : ∀ (n : Nat) {rd : Value} {x1 : Int32} {x2 : Int32} {w3 : Value} {σ : jT}, jw (f_X11_fits_b24 n x1 x2 σ) (fun q => ∀ rd : Value, Q (some (.int q.1)) (jh (jSrd S rd) q.2)) → jx_Ex (d + 108) jm_l298 jm_b298_24 [.ref 65, .int x1, .int x2, w3] [] (jh (jSrd S rd) σ) Q := by
  intro n
  induction n with
  | zero => intro rd x1 x2 w3 σ h; exact jw_none h
  | succ n ih =>
    intro rd x1 x2 w3 σ h
    rw [f_X11_fits_b24] at h
    refine xo_0 rfl ?_
    refine xo_2 rfl ?_
    refine xm_32 (i := 4165) (v := (σ.1 4165)) (jSrd_ok hS rd) ly65 rfl ⟨Nat.le_of_ble_eq_true rfl, Nat.le_of_ble_eq_true rfl⟩ rfl ?_
    refine xo_64 (t := jm_b298_88) rfl (fun hc1 => ?_) (fun hc1 => ?_)
    · replace h := jw_pos hc1 h
      refine xo_0 rfl ?_
      replace h := jw_some h
      exact xo_69 (h rd)
    · replace h := jw_neg hc1 h
      refine xo_8 ?_
      refine xo_4 (ls' := [.ref 65, .int x1, .int x2, .int 0]) rfl ?_
      exact t_X11_fits_b34 hS ih 1000 h
theorem t_X11_fits {S : jS} (hS : jMok S) {d : Nat} {Q : Option Value → jx_H → Prop} {rd : Value} {σ : jT} (h : jw (f_X11_fits σ) (fun q => ∀ rd : Value, Q (some (.int q.1)) (jh (jSrd S rd) q.2))) : jx_Sp (d + 108) 298 [.ref 65] (jh (jSrd S rd) σ) Q := by
  refine ⟨jm_i298, jm_at298, rfl, rfl, ?_⟩
  show jx_Ex _ jm_l298 jm_b298_0 [.ref 65, .retAddr 0, .retAddr 0, .retAddr 0] [] _ _
  unfold f_X11_fits at h
  refine xo_2 rfl ?_
  refine xo_8 ?_
  refine xm_34 (i := 4172) (jSrd_ok hS rd) ly65 rfl ⟨Nat.le_of_ble_eq_true rfl, Nat.le_of_ble_eq_true rfl⟩ ?_
  refine xo_2 rfl ?_
  refine xm_32 (i := 4203) (v := (σ.1 4203)) (jSrd_ok hS rd) ly65 rfl ⟨Nat.le_of_ble_eq_true rfl, Nat.le_of_ble_eq_true rfl⟩ rfl ?_
  refine xo_56 (t := jm_b298_15) rfl (fun hc1 => ?_) (fun hc1 => ?_)
  · replace h := jw_pos hc1 h
    refine xo_8 ?_
    refine xo_4 (ls' := [.ref 65, .int 0, .retAddr 0, .retAddr 0]) rfl ?_
    refine xo_2 rfl ?_
    refine xo_8 ?_
    refine xm_34 (i := 4171) (jSrd_ok hS rd) ly65 rfl ⟨Nat.le_of_ble_eq_true rfl, Nat.le_of_ble_eq_true rfl⟩ ?_
    refine xo_8 ?_
    refine xo_4 (ls' := [.ref 65, .int 0, .int 0, .retAddr 0]) rfl ?_
    exact t_X11_fits_b24 hS 1000 h
  · replace h := jw_neg hc1 h
    refine xo_9 ?_
    replace h := jw_some h
    exact xo_69 (h rd)
/-- OfDifferentMindsModel.views, at ['m'] U -/
def f_X11_views_b151 (k24 : Int32 → Int32 → jT → Option (Int32 × jT)) (x1 : Int32) (x2 : Int32) (σ : jT) : Option (Int32 × jT) :=
  k24 x1 (x2 + 1) σ
def f_X11_views_b148 (k24 : Int32 → Int32 → jT → Option (Int32 × jT)) (x1 : Int32) (x2 : Int32) (σ : jT) : Option (Int32 × jT) :=
  f_X11_views_b151 k24 (x1 + 1) x2 σ
def f_X11_views_b116 (k61 : Int32 → Int32 → Int32 → Int32 → Int32 → Int32 → jT → Option (Int32 × jT)) (x1 : Int32) (x2 : Int32) (x3 : Int32) (x4 : Int32) (x5 : Int32) (x6 : Int32) (σ : jT) : Option (Int32 × jT) :=
  k61 x1 x2 x3 x4 x5 (x6 + 1) σ
def f_X11_views_b61 (k47 : Int32 → Int32 → Int32 → Int32 → Int32 → jT → Option (Int32 × jT)) : Nat → Int32 → Int32 → Int32 → Int32 → Int32 → Int32 → jT → Option (Int32 × jT)
  | 0, _, _, _, _, _, _, _ => none
  | n + 1, x1, x2, x3, x4, x5, x6, σ =>
    if jx_in x3 10 then
    if (σ.2 67 x3.toNatClampNeg) ≤ x6 then
      k47 x1 x2 x3 x4 (x5 + 1) σ
    else
      if x5 = x6 then
        f_X11_views_b116 (f_X11_views_b61 k47 n) x1 x2 x3 x4 x5 x6 σ
      else
        (f_X11_wayBy x5 x6 x3 x2 9 9 σ).bind fun q4 =>
        if jx_in ((3 * x3) + q4.1) 30 then
        if jx_in (x2 + 1) 20 then
        if ¬ (q4.2.2 68 ((3 * x3) + q4.1).toNatClampNeg) = (q4.2.2 88 (x2 + 1).toNatClampNeg) then
          f_X11_views_b116 (f_X11_views_b61 k47 n) x1 x2 x3 x4 x5 x6 q4.2
        else
          f_X11_views_b116 (f_X11_views_b61 k47 n) x1 x2 x3 (x4 + 1) x5 x6 q4.2
        else none
        else none
    else none
def f_X11_views_b47 (k24 : Int32 → Int32 → jT → Option (Int32 × jT)) : Nat → Int32 → Int32 → Int32 → Int32 → Int32 → jT → Option (Int32 × jT)
  | 0, _, _, _, _, _, _ => none
  | n + 1, x1, x2, x3, x4, x5, σ =>
    if jx_in x3 10 then
    if (σ.2 67 x3.toNatClampNeg) ≤ x5 then
      if ¬ x4 = 0 then
        if 15 ≤ x1 then
          f_X11_views_b148 k24 x1 x2 σ
        else
          (f_X11_tell x4 σ).bind fun q5 =>
          f_X11_views_b148 k24 x1 x2 q5.2
      else
        f_X11_views_b151 k24 x1 x2 σ
    else
      f_X11_views_b61 (f_X11_views_b47 k24 n) 1000 x1 x2 x3 x4 x5 0 σ
    else none
def f_X11_views_b24 : Nat → Int32 → Int32 → jT → Option (Int32 × jT)
  | 0, _, _, _ => none
  | n + 1, x1, x2, σ =>
    if (σ.1 4203) ≤ (x2 + 1) then
      some (x1, σ)
    else
      if jx_in x2 20 then
      f_X11_views_b47 (f_X11_views_b24 n) 1000 x1 x2 (σ.2 88 x2.toNatClampNeg) 0 0 σ
      else none
def f_X11_views (σ : jT) : Option (Int32 × jT) :=
  if ¬ (σ.1 4203) = 0 then
    f_X11_views_b24 1000 0 0 (gs (gs σ 4172 0) 4171 0)
  else
    some ((-2), (gs σ 4172 0))
theorem t_X11_views_b151 {S : jS} (hS : jMok S) {d : Nat} {Q : Option Value → jx_H → Prop} {k24 : Int32 → Int32 → jT → Option (Int32 × jT)} (hk24 : ∀ {rd : Value} {x1 : Int32} {x2 : Int32} {w3 : Value} {w4 : Value} {w5 : Value} {w6 : Value} {σ : jT}, jw (k24 x1 x2 σ) (fun q => ∀ rd : Value, Q (some (.int q.1)) (jh (jSrd S rd) q.2)) → jx_Ex (d + 105) jm_l299 jm_b299_24 [.ref 65, .int x1, .int x2, w3, w4, w5, w6] [] (jh (jSrd S rd) σ) Q) {rd : Value} {x1 : Int32} {x2 : Int32} {w3 : Value} {w4 : Value} {w5 : Value} {w6 : Value} {σ : jT} (h : jw (f_X11_views_b151 k24 x1 x2 σ) (fun q => ∀ rd : Value, Q (some (.int q.1)) (jh (jSrd S rd) q.2))) : jx_Ex (d + 105) jm_l299 jm_b299_151 [.ref 65, .int x1, .int x2, w3, w4, w5, w6] [] (jh (jSrd S rd) σ) Q := by
  unfold f_X11_views_b151 at h
  refine xo_13 (ls' := [.ref 65, .int x1, .int (x2 + 1), w3, w4, w5, w6]) rfl rfl ?_
  refine xo_54 (t := jm_b299_24) rfl ?_
  exact hk24 h
theorem t_X11_views_b148 {S : jS} (hS : jMok S) {d : Nat} {Q : Option Value → jx_H → Prop} {k24 : Int32 → Int32 → jT → Option (Int32 × jT)} (hk24 : ∀ {rd : Value} {x1 : Int32} {x2 : Int32} {w3 : Value} {w4 : Value} {w5 : Value} {w6 : Value} {σ : jT}, jw (k24 x1 x2 σ) (fun q => ∀ rd : Value, Q (some (.int q.1)) (jh (jSrd S rd) q.2)) → jx_Ex (d + 105) jm_l299 jm_b299_24 [.ref 65, .int x1, .int x2, w3, w4, w5, w6] [] (jh (jSrd S rd) σ) Q) {rd : Value} {x1 : Int32} {x2 : Int32} {w3 : Value} {w4 : Value} {w5 : Value} {w6 : Value} {σ : jT} (h : jw (f_X11_views_b148 k24 x1 x2 σ) (fun q => ∀ rd : Value, Q (some (.int q.1)) (jh (jSrd S rd) q.2))) : jx_Ex (d + 105) jm_l299 jm_b299_148 [.ref 65, .int x1, .int x2, w3, w4, w5, w6] [] (jh (jSrd S rd) σ) Q := by
  unfold f_X11_views_b148 at h
  refine xo_13 (ls' := [.ref 65, .int (x1 + 1), .int x2, w3, w4, w5, w6]) rfl rfl ?_
  exact t_X11_views_b151 hS hk24 h
theorem t_X11_views_b116 {S : jS} (hS : jMok S) {d : Nat} {Q : Option Value → jx_H → Prop} {k61 : Int32 → Int32 → Int32 → Int32 → Int32 → Int32 → jT → Option (Int32 × jT)} (hk61 : ∀ {rd : Value} {x1 : Int32} {x2 : Int32} {x3 : Int32} {x4 : Int32} {x5 : Int32} {x6 : Int32} {σ : jT}, jw (k61 x1 x2 x3 x4 x5 x6 σ) (fun q => ∀ rd : Value, Q (some (.int q.1)) (jh (jSrd S rd) q.2)) → jx_Ex (d + 105) jm_l299 jm_b299_61 [.ref 65, .int x1, .int x2, .int x3, .int x4, .int x5, .int x6] [] (jh (jSrd S rd) σ) Q) {rd : Value} {x1 : Int32} {x2 : Int32} {x3 : Int32} {x4 : Int32} {x5 : Int32} {x6 : Int32} {σ : jT} (h : jw (f_X11_views_b116 k61 x1 x2 x3 x4 x5 x6 σ) (fun q => ∀ rd : Value, Q (some (.int q.1)) (jh (jSrd S rd) q.2))) : jx_Ex (d + 105) jm_l299 jm_b299_116 [.ref 65, .int x1, .int x2, .int x3, .int x4, .int x5, .int x6] [] (jh (jSrd S rd) σ) Q := by
  unfold f_X11_views_b116 at h
  refine xo_13 (ls' := [.ref 65, .int x1, .int x2, .int x3, .int x4, .int x5, .int (x6 + 1)]) rfl rfl ?_
  refine xo_54 (t := jm_b299_61) rfl ?_
  exact hk61 h
theorem t_X11_views_b61 {S : jS} (hS : jMok S) {d : Nat} {Q : Option Value → jx_H → Prop} {k47 : Int32 → Int32 → Int32 → Int32 → Int32 → jT → Option (Int32 × jT)} (hk47 : ∀ {rd : Value} {x1 : Int32} {x2 : Int32} {x3 : Int32} {x4 : Int32} {x5 : Int32} {w6 : Value} {σ : jT}, jw (k47 x1 x2 x3 x4 x5 σ) (fun q => ∀ rd : Value, Q (some (.int q.1)) (jh (jSrd S rd) q.2)) → jx_Ex (d + 105) jm_l299 jm_b299_47 [.ref 65, .int x1, .int x2, .int x3, .int x4, .int x5, w6] [] (jh (jSrd S rd) σ) Q) : ∀ (n : Nat) {rd : Value} {x1 : Int32} {x2 : Int32} {x3 : Int32} {x4 : Int32} {x5 : Int32} {x6 : Int32} {σ : jT}, jw (f_X11_views_b61 k47 n x1 x2 x3 x4 x5 x6 σ) (fun q => ∀ rd : Value, Q (some (.int q.1)) (jh (jSrd S rd) q.2)) → jx_Ex (d + 105) jm_l299 jm_b299_61 [.ref 65, .int x1, .int x2, .int x3, .int x4, .int x5, .int x6] [] (jh (jSrd S rd) σ) Q := by
  intro n
  induction n with
  | zero => intro rd x1 x2 x3 x4 x5 x6 σ h; exact jw_none h
  | succ n ih =>
    intro rd x1 x2 x3 x4 x5 x6 σ h
    rw [f_X11_views_b61] at h
    refine xo_1 rfl ?_
    refine xo_2 rfl ?_
    refine xm_33 (i := 4162) (q := 67) (jSrd_ok hS rd) ly65 rfl (xm_P (jSrd_ok hS rd) (by decide)) ?_
    refine xo_0 rfl ?_
    obtain ⟨hi1, h⟩ := jw_chk h
    refine xm_38 (j := x3.toNatClampNeg) (v := (σ.2 67 x3.toNatClampNeg)) (jSrd_ok hS rd) ly67 ⟨Nat.le_of_ble_eq_true rfl, Nat.le_of_ble_eq_true rfl⟩ hi1 rfl rfl ?_
    refine xo_64 (t := jm_b299_122) rfl (fun hc2 => ?_) (fun hc2 => ?_)
    · replace h := jw_pos hc2 h
      refine xo_13 (ls' := [.ref 65, .int x1, .int x2, .int x3, .int x4, .int (x5 + 1), .int x6]) rfl rfl ?_
      refine xo_54 (t := jm_b299_47) rfl ?_
      exact hk47 h
    · replace h := jw_neg hc2 h
      refine xo_1 rfl ?_
      refine xo_1 rfl ?_
      refine xo_61 (t := jm_b299_116) rfl (fun hc3 => ?_) (fun hc3 => ?_)
      · replace h := jw_pos hc3 h
        exact t_X11_views_b116 hS ih h
      · replace h := jw_neg hc3 h
        refine xo_2 rfl ?_
        refine xm_33 (i := 4163) (q := 68) (jSrd_ok hS rd) ly65 rfl (xm_P (jSrd_ok hS rd) (by decide)) ?_
        refine xo_8 ?_
        refine xo_0 rfl ?_
        refine xo_16 ?_
        refine xo_2 rfl ?_
        refine xo_1 rfl ?_
        refine xo_1 rfl ?_
        refine xo_0 rfl ?_
        refine xo_0 rfl ?_
        refine xo_9 ?_
        refine xo_9 ?_
        refine xo_49 (st' := [.int (3 * x3), .ref 68]) rfl rfl (xm_ly (jSrd_ok hS rd) ly65) rfl (Nat.le_of_ble_eq_true rfl) ?_
        refine t_X11_wayBy hS ?_
        refine jw_mono (jw_bind h) (fun q4 h rd5 => ?_)
        show jx_Ex _ _ _ _ [.int q4.1, .int (3 * x3), .ref 68] (jh (jSrd S rd5) q4.2) _
        refine xo_14 ?_
        obtain ⟨hi6, h⟩ := jw_chk h
        refine xm_38 (j := ((3 * x3) + q4.1).toNatClampNeg) (v := (q4.2.2 68 ((3 * x3) + q4.1).toNatClampNeg)) (jSrd_ok hS rd5) ly68 ⟨Nat.le_of_ble_eq_true rfl, Nat.le_of_ble_eq_true rfl⟩ hi6 rfl rfl ?_
        refine xo_2 rfl ?_
        refine xm_33 (i := 4202) (q := 88) (jSrd_ok hS rd5) ly65 rfl (xm_P (jSrd_ok hS rd5) (by decide)) ?_
        refine xo_0 rfl ?_
        refine xo_8 ?_
        refine xo_14 ?_
        obtain ⟨hi7, h⟩ := jw_chk h
        refine xm_38 (j := (x2 + 1).toNatClampNeg) (v := (q4.2.2 88 (x2 + 1).toNatClampNeg)) (jSrd_ok hS rd5) ly88 ⟨Nat.le_of_ble_eq_true rfl, Nat.le_of_ble_eq_true rfl⟩ hi7 rfl rfl ?_
        refine xo_62 (t := jm_b299_116) rfl (fun hc8 => ?_) (fun hc8 => ?_)
        · replace h := jw_pos hc8 h
          exact t_X11_views_b116 hS ih h
        · replace h := jw_neg hc8 h
          refine xo_13 (ls' := [.ref 65, .int x1, .int x2, .int x3, .int (x4 + 1), .int x5, .int x6]) rfl rfl ?_
          exact t_X11_views_b116 hS ih h
theorem t_X11_views_b47 {S : jS} (hS : jMok S) {d : Nat} {Q : Option Value → jx_H → Prop} {k24 : Int32 → Int32 → jT → Option (Int32 × jT)} (hk24 : ∀ {rd : Value} {x1 : Int32} {x2 : Int32} {w3 : Value} {w4 : Value} {w5 : Value} {w6 : Value} {σ : jT}, jw (k24 x1 x2 σ) (fun q => ∀ rd : Value, Q (some (.int q.1)) (jh (jSrd S rd) q.2)) → jx_Ex (d + 105) jm_l299 jm_b299_24 [.ref 65, .int x1, .int x2, w3, w4, w5, w6] [] (jh (jSrd S rd) σ) Q) : ∀ (n : Nat) {rd : Value} {x1 : Int32} {x2 : Int32} {x3 : Int32} {x4 : Int32} {x5 : Int32} {w6 : Value} {σ : jT}, jw (f_X11_views_b47 k24 n x1 x2 x3 x4 x5 σ) (fun q => ∀ rd : Value, Q (some (.int q.1)) (jh (jSrd S rd) q.2)) → jx_Ex (d + 105) jm_l299 jm_b299_47 [.ref 65, .int x1, .int x2, .int x3, .int x4, .int x5, w6] [] (jh (jSrd S rd) σ) Q := by
  intro n
  induction n with
  | zero => intro rd x1 x2 x3 x4 x5 w6 σ h; exact jw_none h
  | succ n ih =>
    intro rd x1 x2 x3 x4 x5 w6 σ h
    rw [f_X11_views_b47] at h
    refine xo_1 rfl ?_
    refine xo_2 rfl ?_
    refine xm_33 (i := 4162) (q := 67) (jSrd_ok hS rd) ly65 rfl (xm_P (jSrd_ok hS rd) (by decide)) ?_
    refine xo_0 rfl ?_
    obtain ⟨hi1, h⟩ := jw_chk h
    refine xm_38 (j := x3.toNatClampNeg) (v := (σ.2 67 x3.toNatClampNeg)) (jSrd_ok hS rd) ly67 ⟨Nat.le_of_ble_eq_true rfl, Nat.le_of_ble_eq_true rfl⟩ hi1 rfl rfl ?_
    refine xo_64 (t := jm_b299_128) rfl (fun hc2 => ?_) (fun hc2 => ?_)
    · replace h := jw_pos hc2 h
      refine xo_1 rfl ?_
      refine xo_56 (t := jm_b299_136) rfl (fun hc3 => ?_) (fun hc3 => ?_)
      · replace h := jw_pos hc3 h
        refine xo_0 rfl ?_
        refine xo_9 ?_
        refine xo_64 (t := jm_b299_148) rfl (fun hc4 => ?_) (fun hc4 => ?_)
        · replace h := jw_pos hc4 h
          exact t_X11_views_b148 hS hk24 h
        · replace h := jw_neg hc4 h
          refine xo_2 rfl ?_
          refine xo_1 rfl ?_
          refine xo_49 (st' := []) rfl rfl (xm_ly (jSrd_ok hS rd) ly65) rfl (Nat.le_of_ble_eq_true rfl) ?_
          refine t_X11_tell hS ?_
          refine jw_mono (jw_bind h) (fun q5 h => ?_)
          show jx_Ex _ _ _ _ [] (jh (jSrd S rd) q5.2) _
          exact t_X11_views_b148 hS hk24 h
      · replace h := jw_neg hc3 h
        refine xo_54 (t := jm_b299_151) rfl ?_
        exact t_X11_views_b151 hS hk24 h
    · replace h := jw_neg hc2 h
      refine xo_8 ?_
      refine xo_5 (ls' := [.ref 65, .int x1, .int x2, .int x3, .int x4, .int x5, .int 0]) rfl ?_
      exact t_X11_views_b61 hS ih 1000 h
theorem t_X11_views_b24 {S : jS} (hS : jMok S) {d : Nat} {Q : Option Value → jx_H → Prop} : ∀ (n : Nat) {rd : Value} {x1 : Int32} {x2 : Int32} {w3 : Value} {w4 : Value} {w5 : Value} {w6 : Value} {σ : jT}, jw (f_X11_views_b24 n x1 x2 σ) (fun q => ∀ rd : Value, Q (some (.int q.1)) (jh (jSrd S rd) q.2)) → jx_Ex (d + 105) jm_l299 jm_b299_24 [.ref 65, .int x1, .int x2, w3, w4, w5, w6] [] (jh (jSrd S rd) σ) Q := by
  intro n
  induction n with
  | zero => intro rd x1 x2 w3 w4 w5 w6 σ h; exact jw_none h
  | succ n ih =>
    intro rd x1 x2 w3 w4 w5 w6 σ h
    rw [f_X11_views_b24] at h
    refine xo_0 rfl ?_
    refine xo_8 ?_
    refine xo_14 ?_
    refine xo_2 rfl ?_
    refine xm_32 (i := 4203) (v := (σ.1 4203)) (jSrd_ok hS rd) ly65 rfl ⟨Nat.le_of_ble_eq_true rfl, Nat.le_of_ble_eq_true rfl⟩ rfl ?_
    refine xo_64 (t := jm_b299_157) rfl (fun hc1 => ?_) (fun hc1 => ?_)
    · replace h := jw_pos hc1 h
      refine xo_0 rfl ?_
      replace h := jw_some h
      exact xo_69 (h rd)
    · replace h := jw_neg hc1 h
      refine xo_2 rfl ?_
      refine xm_33 (i := 4202) (q := 88) (jSrd_ok hS rd) ly65 rfl (xm_P (jSrd_ok hS rd) (by decide)) ?_
      refine xo_0 rfl ?_
      obtain ⟨hi2, h⟩ := jw_chk h
      refine xm_38 (j := x2.toNatClampNeg) (v := (σ.2 88 x2.toNatClampNeg)) (jSrd_ok hS rd) ly88 ⟨Nat.le_of_ble_eq_true rfl, Nat.le_of_ble_eq_true rfl⟩ hi2 rfl rfl ?_
      refine xo_4 (ls' := [.ref 65, .int x1, .int x2, .int (σ.2 88 x2.toNatClampNeg), w4, w5, w6]) rfl ?_
      refine xo_8 ?_
      refine xo_5 (ls' := [.ref 65, .int x1, .int x2, .int (σ.2 88 x2.toNatClampNeg), .int 0, w5, w6]) rfl ?_
      refine xo_8 ?_
      refine xo_5 (ls' := [.ref 65, .int x1, .int x2, .int (σ.2 88 x2.toNatClampNeg), .int 0, .int 0, w6]) rfl ?_
      exact t_X11_views_b47 hS ih 1000 h
theorem t_X11_views {S : jS} (hS : jMok S) {d : Nat} {Q : Option Value → jx_H → Prop} {rd : Value} {σ : jT} (h : jw (f_X11_views σ) (fun q => ∀ rd : Value, Q (some (.int q.1)) (jh (jSrd S rd) q.2))) : jx_Sp (d + 105) 299 [.ref 65] (jh (jSrd S rd) σ) Q := by
  refine ⟨jm_i299, jm_at299, rfl, rfl, ?_⟩
  show jx_Ex _ jm_l299 jm_b299_0 [.ref 65, .retAddr 0, .retAddr 0, .retAddr 0, .retAddr 0, .retAddr 0, .retAddr 0] [] _ _
  unfold f_X11_views at h
  refine xo_2 rfl ?_
  refine xo_8 ?_
  refine xm_34 (i := 4172) (jSrd_ok hS rd) ly65 rfl ⟨Nat.le_of_ble_eq_true rfl, Nat.le_of_ble_eq_true rfl⟩ ?_
  refine xo_2 rfl ?_
  refine xm_32 (i := 4203) (v := (σ.1 4203)) (jSrd_ok hS rd) ly65 rfl ⟨Nat.le_of_ble_eq_true rfl, Nat.le_of_ble_eq_true rfl⟩ rfl ?_
  refine xo_56 (t := jm_b299_15) rfl (fun hc1 => ?_) (fun hc1 => ?_)
  · replace h := jw_pos hc1 h
    refine xo_8 ?_
    refine xo_4 (ls' := [.ref 65, .int 0, .retAddr 0, .retAddr 0, .retAddr 0, .retAddr 0, .retAddr 0]) rfl ?_
    refine xo_2 rfl ?_
    refine xo_8 ?_
    refine xm_34 (i := 4171) (jSrd_ok hS rd) ly65 rfl ⟨Nat.le_of_ble_eq_true rfl, Nat.le_of_ble_eq_true rfl⟩ ?_
    refine xo_8 ?_
    refine xo_4 (ls' := [.ref 65, .int 0, .int 0, .retAddr 0, .retAddr 0, .retAddr 0, .retAddr 0]) rfl ?_
    exact t_X11_views_b24 hS 1000 h
  · replace h := jw_neg hc1 h
    refine xo_9 ?_
    replace h := jw_some h
    exact xo_69 (h rd)
/-- OfDifferentMindsModel.areLike, at ['m', 'int', 'int'] K -/
def f_X11_areLike_b2 : Nat → Int32 → Int32 → Int32 → jT → Option (Int32 × jT)
  | 0, _, _, _, _ => none
  | n + 1, x1, x2, x3, σ =>
    if (σ.1 4161) ≤ x3 then
      some (1, σ)
    else
      if jx_in (22 + x1) 28 then
      if jx_in ((10 * (σ.2 66 (22 + x1).toNatClampNeg)) + x3) 60 then
      if jx_in (22 + x2) 28 then
      if jx_in ((10 * (σ.2 66 (22 + x2).toNatClampNeg)) + x3) 60 then
      if (σ.2 70 ((10 * (σ.2 66 (22 + x1).toNatClampNeg)) + x3).toNatClampNeg) = (σ.2 70 ((10 * (σ.2 66 (22 + x2).toNatClampNeg)) + x3).toNatClampNeg) then
        f_X11_areLike_b2 n x1 x2 (x3 + 1) σ
      else
        some (0, σ)
      else none
      else none
      else none
      else none
def f_X11_areLike (x1 : Int32) (x2 : Int32) (σ : jT) : Option (Int32 × jT) :=
  f_X11_areLike_b2 1000 x1 x2 0 σ
theorem t_X11_areLike_b2 {S : jS} (hS : jMok S) {d : Nat} {Q : Option Value → jx_H → Prop} {rd : Value} : ∀ (n : Nat) {x1 : Int32} {x2 : Int32} {x3 : Int32} {σ : jT}, jw (f_X11_areLike_b2 n x1 x2 x3 σ) (fun q => Q (some (.int q.1)) (jh (jSrd S rd) q.2)) → jx_Ex (d) jm_l300 jm_b300_2 [.ref 65, .int x1, .int x2, .int x3] [] (jh (jSrd S rd) σ) Q := by
  intro n
  induction n with
  | zero => intro x1 x2 x3 σ h; exact jw_none h
  | succ n ih =>
    intro x1 x2 x3 σ h
    rw [f_X11_areLike_b2] at h
    refine xo_0 rfl ?_
    refine xo_2 rfl ?_
    refine xm_32 (i := 4161) (v := (σ.1 4161)) (jSrd_ok hS rd) ly65 rfl ⟨Nat.le_of_ble_eq_true rfl, Nat.le_of_ble_eq_true rfl⟩ rfl ?_
    refine xo_64 (t := jm_b300_59) rfl (fun hc1 => ?_) (fun hc1 => ?_)
    · replace h := jw_pos hc1 h
      refine xo_8 ?_
      replace h := jw_some h
      exact xo_70 (by decide) h
    · replace h := jw_neg hc1 h
      refine xo_2 rfl ?_
      refine xm_33 (i := 4167) (q := 70) (jSrd_ok hS rd) ly65 rfl (xm_P (jSrd_ok hS rd) (by decide)) ?_
      refine xo_9 ?_
      refine xo_2 rfl ?_
      refine xm_33 (i := 4160) (q := 66) (jSrd_ok hS rd) ly65 rfl (xm_P (jSrd_ok hS rd) (by decide)) ?_
      refine xo_9 ?_
      refine xo_0 rfl ?_
      refine xo_14 ?_
      obtain ⟨hi2, h⟩ := jw_chk h
      refine xm_38 (j := (22 + x1).toNatClampNeg) (v := (σ.2 66 (22 + x1).toNatClampNeg)) (jSrd_ok hS rd) ly66 ⟨Nat.le_of_ble_eq_true rfl, Nat.le_of_ble_eq_true rfl⟩ hi2 rfl rfl ?_
      refine xo_16 ?_
      refine xo_0 rfl ?_
      refine xo_14 ?_
      obtain ⟨hi3, h⟩ := jw_chk h
      refine xm_38 (j := ((10 * (σ.2 66 (22 + x1).toNatClampNeg)) + x3).toNatClampNeg) (v := (σ.2 70 ((10 * (σ.2 66 (22 + x1).toNatClampNeg)) + x3).toNatClampNeg)) (jSrd_ok hS rd) ly70 ⟨Nat.le_of_ble_eq_true rfl, Nat.le_of_ble_eq_true rfl⟩ hi3 rfl rfl ?_
      refine xo_2 rfl ?_
      refine xm_33 (i := 4167) (q := 70) (jSrd_ok hS rd) ly65 rfl (xm_P (jSrd_ok hS rd) (by decide)) ?_
      refine xo_9 ?_
      refine xo_2 rfl ?_
      refine xm_33 (i := 4160) (q := 66) (jSrd_ok hS rd) ly65 rfl (xm_P (jSrd_ok hS rd) (by decide)) ?_
      refine xo_9 ?_
      refine xo_0 rfl ?_
      refine xo_14 ?_
      obtain ⟨hi4, h⟩ := jw_chk h
      refine xm_38 (j := (22 + x2).toNatClampNeg) (v := (σ.2 66 (22 + x2).toNatClampNeg)) (jSrd_ok hS rd) ly66 ⟨Nat.le_of_ble_eq_true rfl, Nat.le_of_ble_eq_true rfl⟩ hi4 rfl rfl ?_
      refine xo_16 ?_
      refine xo_0 rfl ?_
      refine xo_14 ?_
      obtain ⟨hi5, h⟩ := jw_chk h
      refine xm_38 (j := ((10 * (σ.2 66 (22 + x2).toNatClampNeg)) + x3).toNatClampNeg) (v := (σ.2 70 ((10 * (σ.2 66 (22 + x2).toNatClampNeg)) + x3).toNatClampNeg)) (jSrd_ok hS rd) ly70 ⟨Nat.le_of_ble_eq_true rfl, Nat.le_of_ble_eq_true rfl⟩ hi5 rfl rfl ?_
      refine xo_61 (t := jm_b300_53) rfl (fun hc6 => ?_) (fun hc6 => ?_)
      · replace h := jw_pos hc6 h
        refine xo_13 (ls' := [.ref 65, .int x1, .int x2, .int (x3 + 1)]) rfl rfl ?_
        refine xo_54 (t := jm_b300_2) rfl ?_
        exact ih h
      · replace h := jw_neg hc6 h
        refine xo_8 ?_
        replace h := jw_some h
        exact xo_70 (by decide) h
theorem t_X11_areLike {S : jS} (hS : jMok S) {d : Nat} {Q : Option Value → jx_H → Prop} {rd : Value} {x1 : Int32} {x2 : Int32} {σ : jT} (h : jw (f_X11_areLike x1 x2 σ) (fun q => Q (some (.int q.1)) (jh (jSrd S rd) q.2))) : jx_Sp (d) 300 [.ref 65, .int x1, .int x2] (jh (jSrd S rd) σ) Q := by
  refine ⟨jm_i300, jm_at300, rfl, rfl, ?_⟩
  show jx_Ex _ jm_l300 jm_b300_0 [.ref 65, .int x1, .int x2, .retAddr 0] [] _ _
  unfold f_X11_areLike at h
  refine xo_8 ?_
  refine xo_4 (ls' := [.ref 65, .int x1, .int x2, .int 0]) rfl ?_
  exact t_X11_areLike_b2 hS 1000 h
/-- OfDifferentMindsModel.editions, at ['m', 'int'] K -/
def f_X11_editions_b119 (k24 : Int32 → Int32 → Int32 → jT → Option (Int32 × jT)) (x1 : Int32) (x2 : Int32) (x3 : Int32) (σ : jT) : Option (Int32 × jT) :=
  k24 x1 x2 (x3 + 1) σ
def f_X11_editions_b109 (k24 : Int32 → Int32 → Int32 → jT → Option (Int32 × jT)) (x1 : Int32) (x2 : Int32) (x3 : Int32) (σ : jT) : Option (Int32 × jT) :=
  if jx_in x3 6 then
  (f_X11_tell (σ.2 89 x3.toNatClampNeg) σ).bind fun q2 =>
  f_X11_editions_b119 k24 x1 x2 x3 q2.2
  else none
def f_X11_editions_b99 (k24 : Int32 → Int32 → Int32 → jT → Option (Int32 × jT)) (x1 : Int32) (x2 : Int32) (x3 : Int32) (x4 : Int32) (s0 : Int32) (s1 : Int32) (σ : jT) : Option (Int32 × jT) :=
  if jx_in s1 6 then
  if ¬ x4 = x3 then
    f_X11_editions_b109 k24 x1 x2 x3 (gA σ 89 s1.toNatClampNeg s0)
  else
    f_X11_editions_b109 k24 x1 (x2 + 1) x3 (gA σ 89 s1.toNatClampNeg s0)
  else none
def f_X11_editions_b77 (k24 : Int32 → Int32 → Int32 → jT → Option (Int32 × jT)) (x1 : Int32) (x2 : Int32) (x3 : Int32) (x4 : Int32) (σ : jT) : Option (Int32 × jT) :=
  if x3 ≤ x4 then
    f_X11_editions_b99 k24 x1 x2 x3 x4 x2 x3 σ
  else
    if jx_in x4 6 then
    f_X11_editions_b99 k24 x1 x2 x3 x4 (σ.2 89 x4.toNatClampNeg) x3 σ
    else none
def f_X11_editions_b71 (k46 : Int32 → Int32 → Int32 → Int32 → jT → Option (Int32 × jT)) (x1 : Int32) (x2 : Int32) (x3 : Int32) (x4 : Int32) (σ : jT) : Option (Int32 × jT) :=
  k46 x1 x2 x3 (x4 + 1) σ
def f_X11_editions_b46 (k24 : Int32 → Int32 → Int32 → jT → Option (Int32 × jT)) : Nat → Int32 → Int32 → Int32 → Int32 → jT → Option (Int32 × jT)
  | 0, _, _, _, _, _ => none
  | n + 1, x1, x2, x3, x4, σ =>
    if x3 ≤ x4 then
      f_X11_editions_b77 k24 x1 x2 x3 x4 σ
    else
      (f_X11_has x1 x4 σ).bind fun q2 =>
      if q2.1 = 0 then
        f_X11_editions_b71 (f_X11_editions_b46 k24 n) x1 x2 x3 x4 q2.2
      else
        (f_X11_areLike x4 x3 q2.2).bind fun q4 =>
        if ¬ q4.1 = 0 then
          f_X11_editions_b77 k24 x1 x2 x3 x4 q4.2
        else
          f_X11_editions_b71 (f_X11_editions_b46 k24 n) x1 x2 x3 x4 q4.2
def f_X11_editions_b24 : Nat → Int32 → Int32 → Int32 → jT → Option (Int32 × jT)
  | 0, _, _, _, _ => none
  | n + 1, x1, x2, x3, σ =>
    if (σ.1 4165) ≤ x3 then
      some (x2, σ)
    else
      (f_X11_has x1 x3 σ).bind fun q2 =>
      if ¬ q2.1 = 0 then
        f_X11_editions_b46 (f_X11_editions_b24 n) 1000 x1 x2 x3 0 q2.2
      else
        f_X11_editions_b119 (f_X11_editions_b24 n) x1 x2 x3 q2.2
def f_X11_editions (x1 : Int32) (σ : jT) : Option (Int32 × jT) :=
  (f_X11_areThose x1 (gs σ 4172 0)).bind fun q1 =>
  if ¬ q1.1 = 0 then
    f_X11_editions_b24 1000 x1 0 0 (gs q1.2 4171 0)
  else
    some ((-1), q1.2)
theorem t_X11_editions_b119 {S : jS} (hS : jMok S) {d : Nat} {Q : Option Value → jx_H → Prop} {rd : Value} {k24 : Int32 → Int32 → Int32 → jT → Option (Int32 × jT)} (hk24 : ∀ {x1 : Int32} {x2 : Int32} {x3 : Int32} {w4 : Value} {σ : jT}, jw (k24 x1 x2 x3 σ) (fun q => Q (some (.int q.1)) (jh (jSrd S rd) q.2)) → jx_Ex (d + 2) jm_l301 jm_b301_24 [.ref 65, .int x1, .int x2, .int x3, w4] [] (jh (jSrd S rd) σ) Q) {x1 : Int32} {x2 : Int32} {x3 : Int32} {w4 : Value} {σ : jT} (h : jw (f_X11_editions_b119 k24 x1 x2 x3 σ) (fun q => Q (some (.int q.1)) (jh (jSrd S rd) q.2))) : jx_Ex (d + 2) jm_l301 jm_b301_119 [.ref 65, .int x1, .int x2, .int x3, w4] [] (jh (jSrd S rd) σ) Q := by
  unfold f_X11_editions_b119 at h
  refine xo_13 (ls' := [.ref 65, .int x1, .int x2, .int (x3 + 1), w4]) rfl rfl ?_
  refine xo_54 (t := jm_b301_24) rfl ?_
  exact hk24 h
theorem t_X11_editions_b109 {S : jS} (hS : jMok S) {d : Nat} {Q : Option Value → jx_H → Prop} {rd : Value} {k24 : Int32 → Int32 → Int32 → jT → Option (Int32 × jT)} (hk24 : ∀ {x1 : Int32} {x2 : Int32} {x3 : Int32} {w4 : Value} {σ : jT}, jw (k24 x1 x2 x3 σ) (fun q => Q (some (.int q.1)) (jh (jSrd S rd) q.2)) → jx_Ex (d + 2) jm_l301 jm_b301_24 [.ref 65, .int x1, .int x2, .int x3, w4] [] (jh (jSrd S rd) σ) Q) {x1 : Int32} {x2 : Int32} {x3 : Int32} {w4 : Value} {σ : jT} (h : jw (f_X11_editions_b109 k24 x1 x2 x3 σ) (fun q => Q (some (.int q.1)) (jh (jSrd S rd) q.2))) : jx_Ex (d + 2) jm_l301 jm_b301_109 [.ref 65, .int x1, .int x2, .int x3, w4] [] (jh (jSrd S rd) σ) Q := by
  unfold f_X11_editions_b109 at h
  refine xo_2 rfl ?_
  refine xo_2 rfl ?_
  refine xm_33 (i := 4204) (q := 89) (jSrd_ok hS rd) ly65 rfl (xm_P (jSrd_ok hS rd) (by decide)) ?_
  refine xo_0 rfl ?_
  obtain ⟨hi1, h⟩ := jw_chk h
  refine xm_38 (j := x3.toNatClampNeg) (v := (σ.2 89 x3.toNatClampNeg)) (jSrd_ok hS rd) ly89 ⟨Nat.le_of_ble_eq_true rfl, Nat.le_of_ble_eq_true rfl⟩ hi1 rfl rfl ?_
  refine xo_49 (st' := []) rfl rfl (xm_ly (jSrd_ok hS rd) ly65) rfl (Nat.le_of_ble_eq_true rfl) ?_
  refine t_X11_tell hS ?_
  refine jw_mono (jw_bind h) (fun q2 h => ?_)
  show jx_Ex _ _ _ _ [] (jh (jSrd S rd) q2.2) _
  exact t_X11_editions_b119 hS hk24 h
theorem t_X11_editions_b99 {S : jS} (hS : jMok S) {d : Nat} {Q : Option Value → jx_H → Prop} {rd : Value} {k24 : Int32 → Int32 → Int32 → jT → Option (Int32 × jT)} (hk24 : ∀ {x1 : Int32} {x2 : Int32} {x3 : Int32} {w4 : Value} {σ : jT}, jw (k24 x1 x2 x3 σ) (fun q => Q (some (.int q.1)) (jh (jSrd S rd) q.2)) → jx_Ex (d + 2) jm_l301 jm_b301_24 [.ref 65, .int x1, .int x2, .int x3, w4] [] (jh (jSrd S rd) σ) Q) {x1 : Int32} {x2 : Int32} {x3 : Int32} {x4 : Int32} {s0 : Int32} {s1 : Int32} {σ : jT} (h : jw (f_X11_editions_b99 k24 x1 x2 x3 x4 s0 s1 σ) (fun q => Q (some (.int q.1)) (jh (jSrd S rd) q.2))) : jx_Ex (d + 2) jm_l301 jm_b301_99 [.ref 65, .int x1, .int x2, .int x3, .int x4] [.int s0, .int s1, .ref 89] (jh (jSrd S rd) σ) Q := by
  unfold f_X11_editions_b99 at h
  obtain ⟨hi1, h⟩ := jw_chk h
  refine xm_41 (j := s1.toNatClampNeg) (jSrd_ok hS rd) ly89 ⟨Nat.le_of_ble_eq_true rfl, Nat.le_of_ble_eq_true rfl⟩ hi1 rfl ?_
  refine xo_1 rfl ?_
  refine xo_0 rfl ?_
  refine xo_62 (t := jm_b301_109) rfl (fun hc2 => ?_) (fun hc2 => ?_)
  · replace h := jw_pos hc2 h
    exact t_X11_editions_b109 hS hk24 h
  · replace h := jw_neg hc2 h
    refine xo_13 (ls' := [.ref 65, .int x1, .int (x2 + 1), .int x3, .int x4]) rfl rfl ?_
    exact t_X11_editions_b109 hS hk24 h
theorem t_X11_editions_b77 {S : jS} (hS : jMok S) {d : Nat} {Q : Option Value → jx_H → Prop} {rd : Value} {k24 : Int32 → Int32 → Int32 → jT → Option (Int32 × jT)} (hk24 : ∀ {x1 : Int32} {x2 : Int32} {x3 : Int32} {w4 : Value} {σ : jT}, jw (k24 x1 x2 x3 σ) (fun q => Q (some (.int q.1)) (jh (jSrd S rd) q.2)) → jx_Ex (d + 2) jm_l301 jm_b301_24 [.ref 65, .int x1, .int x2, .int x3, w4] [] (jh (jSrd S rd) σ) Q) {x1 : Int32} {x2 : Int32} {x3 : Int32} {x4 : Int32} {σ : jT} (h : jw (f_X11_editions_b77 k24 x1 x2 x3 x4 σ) (fun q => Q (some (.int q.1)) (jh (jSrd S rd) q.2))) : jx_Ex (d + 2) jm_l301 jm_b301_77 [.ref 65, .int x1, .int x2, .int x3, .int x4] [] (jh (jSrd S rd) σ) Q := by
  unfold f_X11_editions_b77 at h
  refine xo_2 rfl ?_
  refine xm_33 (i := 4204) (q := 89) (jSrd_ok hS rd) ly65 rfl (xm_P (jSrd_ok hS rd) (by decide)) ?_
  refine xo_0 rfl ?_
  refine xo_1 rfl ?_
  refine xo_0 rfl ?_
  refine xo_64 (t := jm_b301_98) rfl (fun hc1 => ?_) (fun hc1 => ?_)
  · replace h := jw_pos hc1 h
    refine xo_0 rfl ?_
    exact t_X11_editions_b99 hS hk24 h
  · replace h := jw_neg hc1 h
    refine xo_2 rfl ?_
    refine xm_33 (i := 4204) (q := 89) (jSrd_ok hS rd) ly65 rfl (xm_P (jSrd_ok hS rd) (by decide)) ?_
    refine xo_1 rfl ?_
    obtain ⟨hi2, h⟩ := jw_chk h
    refine xm_38 (j := x4.toNatClampNeg) (v := (σ.2 89 x4.toNatClampNeg)) (jSrd_ok hS rd) ly89 ⟨Nat.le_of_ble_eq_true rfl, Nat.le_of_ble_eq_true rfl⟩ hi2 rfl rfl ?_
    refine xo_54 (t := jm_b301_99) rfl ?_
    exact t_X11_editions_b99 hS hk24 h
theorem t_X11_editions_b71 {S : jS} (hS : jMok S) {d : Nat} {Q : Option Value → jx_H → Prop} {rd : Value} {k46 : Int32 → Int32 → Int32 → Int32 → jT → Option (Int32 × jT)} (hk46 : ∀ {x1 : Int32} {x2 : Int32} {x3 : Int32} {x4 : Int32} {σ : jT}, jw (k46 x1 x2 x3 x4 σ) (fun q => Q (some (.int q.1)) (jh (jSrd S rd) q.2)) → jx_Ex (d + 2) jm_l301 jm_b301_46 [.ref 65, .int x1, .int x2, .int x3, .int x4] [] (jh (jSrd S rd) σ) Q) {x1 : Int32} {x2 : Int32} {x3 : Int32} {x4 : Int32} {σ : jT} (h : jw (f_X11_editions_b71 k46 x1 x2 x3 x4 σ) (fun q => Q (some (.int q.1)) (jh (jSrd S rd) q.2))) : jx_Ex (d + 2) jm_l301 jm_b301_71 [.ref 65, .int x1, .int x2, .int x3, .int x4] [] (jh (jSrd S rd) σ) Q := by
  unfold f_X11_editions_b71 at h
  refine xo_13 (ls' := [.ref 65, .int x1, .int x2, .int x3, .int (x4 + 1)]) rfl rfl ?_
  refine xo_54 (t := jm_b301_46) rfl ?_
  exact hk46 h
theorem t_X11_editions_b46 {S : jS} (hS : jMok S) {d : Nat} {Q : Option Value → jx_H → Prop} {rd : Value} {k24 : Int32 → Int32 → Int32 → jT → Option (Int32 × jT)} (hk24 : ∀ {x1 : Int32} {x2 : Int32} {x3 : Int32} {w4 : Value} {σ : jT}, jw (k24 x1 x2 x3 σ) (fun q => Q (some (.int q.1)) (jh (jSrd S rd) q.2)) → jx_Ex (d + 2) jm_l301 jm_b301_24 [.ref 65, .int x1, .int x2, .int x3, w4] [] (jh (jSrd S rd) σ) Q) : ∀ (n : Nat) {x1 : Int32} {x2 : Int32} {x3 : Int32} {x4 : Int32} {σ : jT}, jw (f_X11_editions_b46 k24 n x1 x2 x3 x4 σ) (fun q => Q (some (.int q.1)) (jh (jSrd S rd) q.2)) → jx_Ex (d + 2) jm_l301 jm_b301_46 [.ref 65, .int x1, .int x2, .int x3, .int x4] [] (jh (jSrd S rd) σ) Q := by
  intro n
  induction n with
  | zero => intro x1 x2 x3 x4 σ h; exact jw_none h
  | succ n ih =>
    intro x1 x2 x3 x4 σ h
    rw [f_X11_editions_b46] at h
    refine xo_1 rfl ?_
    refine xo_0 rfl ?_
    refine xo_64 (t := jm_b301_77) rfl (fun hc1 => ?_) (fun hc1 => ?_)
    · replace h := jw_pos hc1 h
      exact t_X11_editions_b77 hS hk24 h
    · replace h := jw_neg hc1 h
      refine xo_0 rfl ?_
      refine xo_1 rfl ?_
      refine xo_50 (st' := []) rfl rfl rfl (Nat.le_of_ble_eq_true rfl) ?_
      refine t_X11_has hS ?_
      refine jw_mono (jw_bind h) (fun q2 h => ?_)
      show jx_Ex _ _ _ _ [.int q2.1] (jh (jSrd S rd) q2.2) _
      refine xo_55 (t := jm_b301_71) rfl (fun hc3 => ?_) (fun hc3 => ?_)
      · replace h := jw_pos hc3 h
        exact t_X11_editions_b71 hS ih h
      · replace h := jw_neg hc3 h
        refine xo_2 rfl ?_
        refine xo_1 rfl ?_
        refine xo_0 rfl ?_
        refine xo_49 (st' := []) rfl rfl (xm_ly (jSrd_ok hS rd) ly65) rfl (Nat.le_of_ble_eq_true rfl) ?_
        refine t_X11_areLike hS ?_
        refine jw_mono (jw_bind h) (fun q4 h => ?_)
        show jx_Ex _ _ _ _ [.int q4.1] (jh (jSrd S rd) q4.2) _
        refine xo_56 (t := jm_b301_77) rfl (fun hc5 => ?_) (fun hc5 => ?_)
        · replace h := jw_pos hc5 h
          exact t_X11_editions_b77 hS hk24 h
        · replace h := jw_neg hc5 h
          exact t_X11_editions_b71 hS ih h
theorem t_X11_editions_b24 {S : jS} (hS : jMok S) {d : Nat} {Q : Option Value → jx_H → Prop} {rd : Value} : ∀ (n : Nat) {x1 : Int32} {x2 : Int32} {x3 : Int32} {w4 : Value} {σ : jT}, jw (f_X11_editions_b24 n x1 x2 x3 σ) (fun q => Q (some (.int q.1)) (jh (jSrd S rd) q.2)) → jx_Ex (d + 2) jm_l301 jm_b301_24 [.ref 65, .int x1, .int x2, .int x3, w4] [] (jh (jSrd S rd) σ) Q := by
  intro n
  induction n with
  | zero => intro x1 x2 x3 w4 σ h; exact jw_none h
  | succ n ih =>
    intro x1 x2 x3 w4 σ h
    rw [f_X11_editions_b24] at h
    refine xo_0 rfl ?_
    refine xo_2 rfl ?_
    refine xm_32 (i := 4165) (v := (σ.1 4165)) (jSrd_ok hS rd) ly65 rfl ⟨Nat.le_of_ble_eq_true rfl, Nat.le_of_ble_eq_true rfl⟩ rfl ?_
    refine xo_64 (t := jm_b301_125) rfl (fun hc1 => ?_) (fun hc1 => ?_)
    · replace h := jw_pos hc1 h
      refine xo_0 rfl ?_
      replace h := jw_some h
      exact xo_69 h
    · replace h := jw_neg hc1 h
      refine xo_0 rfl ?_
      refine xo_0 rfl ?_
      refine xo_50 (st' := []) rfl rfl rfl (Nat.le_of_ble_eq_true rfl) ?_
      refine t_X11_has hS ?_
      refine jw_mono (jw_bind h) (fun q2 h => ?_)
      show jx_Ex _ _ _ _ [.int q2.1] (jh (jSrd S rd) q2.2) _
      refine xo_56 (t := jm_b301_43) rfl (fun hc3 => ?_) (fun hc3 => ?_)
      · replace h := jw_pos hc3 h
        refine xo_8 ?_
        refine xo_5 (ls' := [.ref 65, .int x1, .int x2, .int x3, .int 0]) rfl ?_
        exact t_X11_editions_b46 hS ih 1000 h
      · replace h := jw_neg hc3 h
        refine xo_54 (t := jm_b301_119) rfl ?_
        exact t_X11_editions_b119 hS ih h
theorem t_X11_editions {S : jS} (hS : jMok S) {d : Nat} {Q : Option Value → jx_H → Prop} {rd : Value} {x1 : Int32} {σ : jT} (h : jw (f_X11_editions x1 σ) (fun q => Q (some (.int q.1)) (jh (jSrd S rd) q.2))) : jx_Sp (d + 2) 301 [.ref 65, .int x1] (jh (jSrd S rd) σ) Q := by
  refine ⟨jm_i301, jm_at301, rfl, rfl, ?_⟩
  show jx_Ex _ jm_l301 jm_b301_0 [.ref 65, .int x1, .retAddr 0, .retAddr 0, .retAddr 0] [] _ _
  unfold f_X11_editions at h
  refine xo_2 rfl ?_
  refine xo_8 ?_
  refine xm_34 (i := 4172) (jSrd_ok hS rd) ly65 rfl ⟨Nat.le_of_ble_eq_true rfl, Nat.le_of_ble_eq_true rfl⟩ ?_
  refine xo_2 rfl ?_
  refine xo_0 rfl ?_
  refine xo_49 (st' := []) rfl rfl (xm_ly (jSrd_ok hS rd) ly65) rfl (Nat.le_of_ble_eq_true rfl) ?_
  refine t_X11_areThose hS ?_
  refine jw_mono (jw_bind h) (fun q1 h => ?_)
  show jx_Ex _ _ _ _ [.int q1.1] (jh (jSrd S rd) q1.2) _
  refine xo_56 (t := jm_b301_15) rfl (fun hc2 => ?_) (fun hc2 => ?_)
  · replace h := jw_pos hc2 h
    refine xo_8 ?_
    refine xo_4 (ls' := [.ref 65, .int x1, .int 0, .retAddr 0, .retAddr 0]) rfl ?_
    refine xo_2 rfl ?_
    refine xo_8 ?_
    refine xm_34 (i := 4171) (jSrd_ok hS rd) ly65 rfl ⟨Nat.le_of_ble_eq_true rfl, Nat.le_of_ble_eq_true rfl⟩ ?_
    refine xo_8 ?_
    refine xo_4 (ls' := [.ref 65, .int x1, .int 0, .int 0, .retAddr 0]) rfl ?_
    exact t_X11_editions_b24 hS 1000 h
  · replace h := jw_neg hc2 h
    refine xo_8 ?_
    replace h := jw_some h
    exact xo_69 h
/-- OfDifferentMindsModel.kinds, at ['m', 'int', 'int'] K -/
def f_X11_kinds_b176 (x3 : Int32) (x4 : Int32) (s0 : Int32) (σ : jT) : Option (Int32 × jT) :=
  (f_X11_tell s0 σ).bind fun q1 =>
  if jx_in x4 3 then
  (f_X11_tell (q1.2.2 90 x4.toNatClampNeg) q1.2).bind fun q3 =>
  some (x3, q3.2)
  else none
def f_X11_kinds_b148 (k103 : Int32 → Int32 → Int32 → jT → Option (Int32 × jT)) (x3 : Int32) (x4 : Int32) (x5 : Int32) (σ : jT) : Option (Int32 × jT) :=
  k103 x3 x4 (x5 + 1) σ
def f_X11_kinds_b125 (k103 : Int32 → Int32 → Int32 → jT → Option (Int32 × jT)) (x4 : Int32) (x5 : Int32) (s0 : Int32) (s1 : Int32) (σ : jT) : Option (Int32 × jT) :=
  if jx_in x5 3 then
  if jx_in x4 3 then
  if (σ.2 90 x5.toNatClampNeg) ≤ (σ.2 90 x4.toNatClampNeg) then
    f_X11_kinds_b148 k103 (s1 + s0) x4 x5 σ
  else
    f_X11_kinds_b148 k103 (s1 + s0) x5 x5 σ
  else none
  else none
def f_X11_kinds_b103 : Nat → Int32 → Int32 → Int32 → jT → Option (Int32 × jT)
  | 0, _, _, _, _ => none
  | n + 1, x3, x4, x5, σ =>
    if 3 ≤ x5 then
      if jx_in x4 3 then
      if ¬ (σ.2 90 x4.toNatClampNeg) = 0 then
        f_X11_kinds_b176 x3 x4 x4 (gs σ 4171 0)
      else
        f_X11_kinds_b176 x3 x4 (-1) (gs σ 4171 0)
      else none
    else
      if jx_in x5 3 then
      if (σ.2 90 x5.toNatClampNeg) ≤ 0 then
        f_X11_kinds_b125 (f_X11_kinds_b103 n) x4 x5 0 x3 σ
      else
        f_X11_kinds_b125 (f_X11_kinds_b103 n) x4 x5 1 x3 σ
      else none
def f_X11_kinds_b95 (σ : jT) : Option (Int32 × jT) :=
  f_X11_kinds_b103 1000 0 0 0 σ
def f_X11_kinds_b89 (k45 : Int32 → Int32 → Int32 → jT → Option (Int32 × jT)) (x1 : Int32) (x2 : Int32) (x3 : Int32) (σ : jT) : Option (Int32 × jT) :=
  k45 x1 x2 (x3 + 1) σ
def f_X11_kinds_b45 : Nat → Int32 → Int32 → Int32 → jT → Option (Int32 × jT)
  | 0, _, _, _, _ => none
  | n + 1, x1, x2, x3, σ =>
    if (σ.1 4165) ≤ x3 then
      f_X11_kinds_b95 σ
    else
      if jx_in x2 10 then
      if (σ.2 67 x2.toNatClampNeg) ≤ 0 then
        f_X11_kinds_b95 σ
      else
        (f_X11_has x1 x3 σ).bind fun q4 =>
        if q4.1 = 0 then
          f_X11_kinds_b89 (f_X11_kinds_b45 n) x1 x2 x3 q4.2
        else
          (f_X11_viewOf_66 x3 x2 q4.2).bind fun q6 =>
          if jx_in q6.1 3 then
          f_X11_kinds_b89 (f_X11_kinds_b45 n) x1 x2 x3 (gA q6.2 90 q6.1.toNatClampNeg ((q6.2.2 90 q6.1.toNatClampNeg) + 1))
          else none
      else none
def f_X11_kinds_b25 : Nat → Int32 → Int32 → Int32 → jT → Option (Int32 × jT)
  | 0, _, _, _, _ => none
  | n + 1, x1, x2, x3, σ =>
    if 3 ≤ x3 then
      f_X11_kinds_b45 1000 x1 x2 0 σ
    else
      if jx_in x3 3 then
      f_X11_kinds_b25 n x1 x2 (x3 + 1) (gA σ 90 x3.toNatClampNeg 0)
      else none
def f_X11_kinds (x1 : Int32) (x2 : Int32) (σ : jT) : Option (Int32 × jT) :=
  (f_X11_areThose x1 (gs σ 4172 0)).bind fun q1 =>
  if q1.1 = 0 then
    some ((-1), q1.2)
  else
    (f_X11_isPlace x2 q1.2).bind fun q3 =>
    if ¬ q3.1 = 0 then
      f_X11_kinds_b25 1000 x1 x2 0 q3.2
    else
      some ((-1), q3.2)
theorem t_X11_kinds_b176 {S : jS} (hS : jMok S) {d : Nat} {Q : Option Value → jx_H → Prop} {rd : Value} {x3 : Int32} {x4 : Int32} {s0 : Int32} {w1 : Value} {w2 : Value} {w5 : Value} {σ : jT} (h : jw (f_X11_kinds_b176 x3 x4 s0 σ) (fun q => Q (some (.int q.1)) (jh (jSrd S rd) q.2))) : jx_Ex (d + 2) jm_l302 jm_b302_176 [.ref 65, w1, w2, .int x3, .int x4, w5] [.int s0, .ref 65] (jh (jSrd S rd) σ) Q := by
  unfold f_X11_kinds_b176 at h
  refine xo_49 (st' := []) rfl rfl (xm_ly (jSrd_ok hS rd) ly65) rfl (Nat.le_of_ble_eq_true rfl) ?_
  refine t_X11_tell hS ?_
  refine jw_mono (jw_bind h) (fun q1 h => ?_)
  show jx_Ex _ _ _ _ [] (jh (jSrd S rd) q1.2) _
  refine xo_2 rfl ?_
  refine xo_2 rfl ?_
  refine xm_33 (i := 4205) (q := 90) (jSrd_ok hS rd) ly65 rfl (xm_P (jSrd_ok hS rd) (by decide)) ?_
  refine xo_1 rfl ?_
  obtain ⟨hi2, h⟩ := jw_chk h
  refine xm_38 (j := x4.toNatClampNeg) (v := (q1.2.2 90 x4.toNatClampNeg)) (jSrd_ok hS rd) ly90 ⟨Nat.le_of_ble_eq_true rfl, Nat.le_of_ble_eq_true rfl⟩ hi2 rfl rfl ?_
  refine xo_49 (st' := []) rfl rfl (xm_ly (jSrd_ok hS rd) ly65) rfl (Nat.le_of_ble_eq_true rfl) ?_
  refine t_X11_tell hS ?_
  refine jw_mono (jw_bind h) (fun q3 h => ?_)
  show jx_Ex _ _ _ _ [] (jh (jSrd S rd) q3.2) _
  refine xo_0 rfl ?_
  replace h := jw_some h
  exact xo_69 h
theorem t_X11_kinds_b148 {S : jS} (hS : jMok S) {d : Nat} {Q : Option Value → jx_H → Prop} {rd : Value} {k103 : Int32 → Int32 → Int32 → jT → Option (Int32 × jT)} (hk103 : ∀ {x3 : Int32} {x4 : Int32} {x5 : Int32} {w1 : Value} {w2 : Value} {σ : jT}, jw (k103 x3 x4 x5 σ) (fun q => Q (some (.int q.1)) (jh (jSrd S rd) q.2)) → jx_Ex (d + 2) jm_l302 jm_b302_103 [.ref 65, w1, w2, .int x3, .int x4, .int x5] [] (jh (jSrd S rd) σ) Q) {x3 : Int32} {x4 : Int32} {x5 : Int32} {w1 : Value} {w2 : Value} {σ : jT} (h : jw (f_X11_kinds_b148 k103 x3 x4 x5 σ) (fun q => Q (some (.int q.1)) (jh (jSrd S rd) q.2))) : jx_Ex (d + 2) jm_l302 jm_b302_148 [.ref 65, w1, w2, .int x3, .int x4, .int x5] [] (jh (jSrd S rd) σ) Q := by
  unfold f_X11_kinds_b148 at h
  refine xo_13 (ls' := [.ref 65, w1, w2, .int x3, .int x4, .int (x5 + 1)]) rfl rfl ?_
  refine xo_54 (t := jm_b302_103) rfl ?_
  exact hk103 h
theorem t_X11_kinds_b125 {S : jS} (hS : jMok S) {d : Nat} {Q : Option Value → jx_H → Prop} {rd : Value} {k103 : Int32 → Int32 → Int32 → jT → Option (Int32 × jT)} (hk103 : ∀ {x3 : Int32} {x4 : Int32} {x5 : Int32} {w1 : Value} {w2 : Value} {σ : jT}, jw (k103 x3 x4 x5 σ) (fun q => Q (some (.int q.1)) (jh (jSrd S rd) q.2)) → jx_Ex (d + 2) jm_l302 jm_b302_103 [.ref 65, w1, w2, .int x3, .int x4, .int x5] [] (jh (jSrd S rd) σ) Q) {x4 : Int32} {x5 : Int32} {s0 : Int32} {s1 : Int32} {w1 : Value} {w2 : Value} {w3 : Value} {σ : jT} (h : jw (f_X11_kinds_b125 k103 x4 x5 s0 s1 σ) (fun q => Q (some (.int q.1)) (jh (jSrd S rd) q.2))) : jx_Ex (d + 2) jm_l302 jm_b302_125 [.ref 65, w1, w2, w3, .int x4, .int x5] [.int s0, .int s1] (jh (jSrd S rd) σ) Q := by
  unfold f_X11_kinds_b125 at h
  refine xo_14 ?_
  refine xo_4 (ls' := [.ref 65, w1, w2, .int (s1 + s0), .int x4, .int x5]) rfl ?_
  refine xo_2 rfl ?_
  refine xm_33 (i := 4205) (q := 90) (jSrd_ok hS rd) ly65 rfl (xm_P (jSrd_ok hS rd) (by decide)) ?_
  refine xo_1 rfl ?_
  obtain ⟨hi1, h⟩ := jw_chk h
  refine xm_38 (j := x5.toNatClampNeg) (v := (σ.2 90 x5.toNatClampNeg)) (jSrd_ok hS rd) ly90 ⟨Nat.le_of_ble_eq_true rfl, Nat.le_of_ble_eq_true rfl⟩ hi1 rfl rfl ?_
  refine xo_2 rfl ?_
  refine xm_33 (i := 4205) (q := 90) (jSrd_ok hS rd) ly65 rfl (xm_P (jSrd_ok hS rd) (by decide)) ?_
  refine xo_1 rfl ?_
  obtain ⟨hi2, h⟩ := jw_chk h
  refine xm_38 (j := x4.toNatClampNeg) (v := (σ.2 90 x4.toNatClampNeg)) (jSrd_ok hS rd) ly90 ⟨Nat.le_of_ble_eq_true rfl, Nat.le_of_ble_eq_true rfl⟩ hi2 rfl rfl ?_
  refine xo_66 (t := jm_b302_148) rfl (fun hc3 => ?_) (fun hc3 => ?_)
  · replace h := jw_pos hc3 h
    exact t_X11_kinds_b148 hS hk103 h
  · replace h := jw_neg hc3 h
    refine xo_1 rfl ?_
    refine xo_5 (ls' := [.ref 65, w1, w2, .int (s1 + s0), .int x5, .int x5]) rfl ?_
    exact t_X11_kinds_b148 hS hk103 h
theorem t_X11_kinds_b103 {S : jS} (hS : jMok S) {d : Nat} {Q : Option Value → jx_H → Prop} {rd : Value} : ∀ (n : Nat) {x3 : Int32} {x4 : Int32} {x5 : Int32} {w1 : Value} {w2 : Value} {σ : jT}, jw (f_X11_kinds_b103 n x3 x4 x5 σ) (fun q => Q (some (.int q.1)) (jh (jSrd S rd) q.2)) → jx_Ex (d + 2) jm_l302 jm_b302_103 [.ref 65, w1, w2, .int x3, .int x4, .int x5] [] (jh (jSrd S rd) σ) Q := by
  intro n
  induction n with
  | zero => intro x3 x4 x5 w1 w2 σ h; exact jw_none h
  | succ n ih =>
    intro x3 x4 x5 w1 w2 σ h
    rw [f_X11_kinds_b103] at h
    refine xo_1 rfl ?_
    refine xo_8 ?_
    refine xo_64 (t := jm_b302_154) rfl (fun hc1 => ?_) (fun hc1 => ?_)
    · replace h := jw_pos hc1 h
      refine xo_2 rfl ?_
      refine xo_8 ?_
      refine xm_34 (i := 4171) (jSrd_ok hS rd) ly65 rfl ⟨Nat.le_of_ble_eq_true rfl, Nat.le_of_ble_eq_true rfl⟩ ?_
      refine xo_2 rfl ?_
      refine xo_2 rfl ?_
      refine xm_33 (i := 4205) (q := 90) (jSrd_ok hS rd) ly65 rfl (xm_P (jSrd_ok hS rd) (by decide)) ?_
      refine xo_1 rfl ?_
      obtain ⟨hi2, h⟩ := jw_chk h
      refine xm_38 (j := x4.toNatClampNeg) (v := (σ.2 90 x4.toNatClampNeg)) (jSrd_ok hS rd) ly90 ⟨Nat.le_of_ble_eq_true rfl, Nat.le_of_ble_eq_true rfl⟩ hi2 rfl rfl ?_
      refine xo_56 (t := jm_b302_174) rfl (fun hc3 => ?_) (fun hc3 => ?_)
      · replace h := jw_pos hc3 h
        refine xo_1 rfl ?_
        exact t_X11_kinds_b176 hS h
      · replace h := jw_neg hc3 h
        refine xo_8 ?_
        refine xo_54 (t := jm_b302_176) rfl ?_
        exact t_X11_kinds_b176 hS h
    · replace h := jw_neg hc1 h
      refine xo_0 rfl ?_
      refine xo_2 rfl ?_
      refine xm_33 (i := 4205) (q := 90) (jSrd_ok hS rd) ly65 rfl (xm_P (jSrd_ok hS rd) (by decide)) ?_
      refine xo_1 rfl ?_
      obtain ⟨hi4, h⟩ := jw_chk h
      refine xm_38 (j := x5.toNatClampNeg) (v := (σ.2 90 x5.toNatClampNeg)) (jSrd_ok hS rd) ly90 ⟨Nat.le_of_ble_eq_true rfl, Nat.le_of_ble_eq_true rfl⟩ hi4 rfl rfl ?_
      refine xo_60 (t := jm_b302_124) rfl (fun hc5 => ?_) (fun hc5 => ?_)
      · replace h := jw_pos hc5 h
        refine xo_8 ?_
        exact t_X11_kinds_b125 hS ih h
      · replace h := jw_neg hc5 h
        refine xo_8 ?_
        refine xo_54 (t := jm_b302_125) rfl ?_
        exact t_X11_kinds_b125 hS ih h
theorem t_X11_kinds_b95 {S : jS} (hS : jMok S) {d : Nat} {Q : Option Value → jx_H → Prop} {rd : Value} {w1 : Value} {w2 : Value} {w3 : Value} {w4 : Value} {w5 : Value} {σ : jT} (h : jw (f_X11_kinds_b95 σ) (fun q => Q (some (.int q.1)) (jh (jSrd S rd) q.2))) : jx_Ex (d + 2) jm_l302 jm_b302_95 [.ref 65, w1, w2, w3, w4, w5] [] (jh (jSrd S rd) σ) Q := by
  unfold f_X11_kinds_b95 at h
  refine xo_8 ?_
  refine xo_4 (ls' := [.ref 65, w1, w2, .int 0, w4, w5]) rfl ?_
  refine xo_8 ?_
  refine xo_5 (ls' := [.ref 65, w1, w2, .int 0, .int 0, w5]) rfl ?_
  refine xo_8 ?_
  refine xo_5 (ls' := [.ref 65, w1, w2, .int 0, .int 0, .int 0]) rfl ?_
  exact t_X11_kinds_b103 hS 1000 h
theorem t_X11_kinds_b89 {S : jS} (hS : jMok S) {d : Nat} {Q : Option Value → jx_H → Prop} {rd : Value} {k45 : Int32 → Int32 → Int32 → jT → Option (Int32 × jT)} (hk45 : ∀ {x1 : Int32} {x2 : Int32} {x3 : Int32} {w4 : Value} {w5 : Value} {σ : jT}, jw (k45 x1 x2 x3 σ) (fun q => Q (some (.int q.1)) (jh (jSrd S rd) q.2)) → jx_Ex (d + 2) jm_l302 jm_b302_45 [.ref 65, .int x1, .int x2, .int x3, w4, w5] [] (jh (jSrd S rd) σ) Q) {x1 : Int32} {x2 : Int32} {x3 : Int32} {w4 : Value} {w5 : Value} {σ : jT} (h : jw (f_X11_kinds_b89 k45 x1 x2 x3 σ) (fun q => Q (some (.int q.1)) (jh (jSrd S rd) q.2))) : jx_Ex (d + 2) jm_l302 jm_b302_89 [.ref 65, .int x1, .int x2, .int x3, w4, w5] [] (jh (jSrd S rd) σ) Q := by
  unfold f_X11_kinds_b89 at h
  refine xo_13 (ls' := [.ref 65, .int x1, .int x2, .int (x3 + 1), w4, w5]) rfl rfl ?_
  refine xo_54 (t := jm_b302_45) rfl ?_
  exact hk45 h
theorem t_X11_kinds_b45 {S : jS} (hS : jMok S) {d : Nat} {Q : Option Value → jx_H → Prop} {rd : Value} : ∀ (n : Nat) {x1 : Int32} {x2 : Int32} {x3 : Int32} {w4 : Value} {w5 : Value} {σ : jT}, jw (f_X11_kinds_b45 n x1 x2 x3 σ) (fun q => Q (some (.int q.1)) (jh (jSrd S rd) q.2)) → jx_Ex (d + 2) jm_l302 jm_b302_45 [.ref 65, .int x1, .int x2, .int x3, w4, w5] [] (jh (jSrd S rd) σ) Q := by
  intro n
  induction n with
  | zero => intro x1 x2 x3 w4 w5 σ h; exact jw_none h
  | succ n ih =>
    intro x1 x2 x3 w4 w5 σ h
    rw [f_X11_kinds_b45] at h
    refine xo_0 rfl ?_
    refine xo_2 rfl ?_
    refine xm_32 (i := 4165) (v := (σ.1 4165)) (jSrd_ok hS rd) ly65 rfl ⟨Nat.le_of_ble_eq_true rfl, Nat.le_of_ble_eq_true rfl⟩ rfl ?_
    refine xo_64 (t := jm_b302_95) rfl (fun hc1 => ?_) (fun hc1 => ?_)
    · replace h := jw_pos hc1 h
      exact t_X11_kinds_b95 hS h
    · replace h := jw_neg hc1 h
      refine xo_2 rfl ?_
      refine xm_33 (i := 4162) (q := 67) (jSrd_ok hS rd) ly65 rfl (xm_P (jSrd_ok hS rd) (by decide)) ?_
      refine xo_0 rfl ?_
      obtain ⟨hi2, h⟩ := jw_chk h
      refine xm_38 (j := x2.toNatClampNeg) (v := (σ.2 67 x2.toNatClampNeg)) (jSrd_ok hS rd) ly67 ⟨Nat.le_of_ble_eq_true rfl, Nat.le_of_ble_eq_true rfl⟩ hi2 rfl rfl ?_
      refine xo_60 (t := jm_b302_95) rfl (fun hc3 => ?_) (fun hc3 => ?_)
      · replace h := jw_pos hc3 h
        exact t_X11_kinds_b95 hS h
      · replace h := jw_neg hc3 h
        refine xo_0 rfl ?_
        refine xo_0 rfl ?_
        refine xo_50 (st' := []) rfl rfl rfl (Nat.le_of_ble_eq_true rfl) ?_
        refine t_X11_has hS ?_
        refine jw_mono (jw_bind h) (fun q4 h => ?_)
        show jx_Ex _ _ _ _ [.int q4.1] (jh (jSrd S rd) q4.2) _
        refine xo_55 (t := jm_b302_89) rfl (fun hc5 => ?_) (fun hc5 => ?_)
        · replace h := jw_pos hc5 h
          exact t_X11_kinds_b89 hS ih h
        · replace h := jw_neg hc5 h
          refine xo_2 rfl ?_
          refine xm_33 (i := 4205) (q := 90) (jSrd_ok hS rd) ly65 rfl (xm_P (jSrd_ok hS rd) (by decide)) ?_
          refine xo_2 rfl ?_
          refine xo_2 rfl ?_
          refine xm_33 (i := 4160) (q := 66) (jSrd_ok hS rd) ly65 rfl (xm_P (jSrd_ok hS rd) (by decide)) ?_
          refine xo_0 rfl ?_
          refine xo_0 rfl ?_
          refine xo_49 (st' := [.ref 90]) rfl rfl (xm_ly (jSrd_ok hS rd) ly65) rfl (Nat.le_of_ble_eq_true rfl) ?_
          refine t_X11_viewOf_66 hS ?_
          refine jw_mono (jw_bind h) (fun q6 h => ?_)
          show jx_Ex _ _ _ _ [.int q6.1, .ref 90] (jh (jSrd S rd) q6.2) _
          refine xo_29 ?_
          obtain ⟨hi7, h⟩ := jw_chk h
          refine xm_38 (j := q6.1.toNatClampNeg) (v := (q6.2.2 90 q6.1.toNatClampNeg)) (jSrd_ok hS rd) ly90 ⟨Nat.le_of_ble_eq_true rfl, Nat.le_of_ble_eq_true rfl⟩ hi7 rfl rfl ?_
          refine xo_8 ?_
          refine xo_14 ?_
          refine xm_41 (j := q6.1.toNatClampNeg) (jSrd_ok hS rd) ly90 ⟨Nat.le_of_ble_eq_true rfl, Nat.le_of_ble_eq_true rfl⟩ hi7 rfl ?_
          exact t_X11_kinds_b89 hS ih h
theorem t_X11_kinds_b25 {S : jS} (hS : jMok S) {d : Nat} {Q : Option Value → jx_H → Prop} {rd : Value} : ∀ (n : Nat) {x1 : Int32} {x2 : Int32} {x3 : Int32} {w4 : Value} {w5 : Value} {σ : jT}, jw (f_X11_kinds_b25 n x1 x2 x3 σ) (fun q => Q (some (.int q.1)) (jh (jSrd S rd) q.2)) → jx_Ex (d + 2) jm_l302 jm_b302_25 [.ref 65, .int x1, .int x2, .int x3, w4, w5] [] (jh (jSrd S rd) σ) Q := by
  intro n
  induction n with
  | zero => intro x1 x2 x3 w4 w5 σ h; exact jw_none h
  | succ n ih =>
    intro x1 x2 x3 w4 w5 σ h
    rw [f_X11_kinds_b25] at h
    refine xo_0 rfl ?_
    refine xo_8 ?_
    refine xo_64 (t := jm_b302_43) rfl (fun hc1 => ?_) (fun hc1 => ?_)
    · replace h := jw_pos hc1 h
      refine xo_8 ?_
      refine xo_4 (ls' := [.ref 65, .int x1, .int x2, .int 0, w4, w5]) rfl ?_
      exact t_X11_kinds_b45 hS 1000 h
    · replace h := jw_neg hc1 h
      refine xo_2 rfl ?_
      refine xm_33 (i := 4205) (q := 90) (jSrd_ok hS rd) ly65 rfl (xm_P (jSrd_ok hS rd) (by decide)) ?_
      refine xo_0 rfl ?_
      refine xo_8 ?_
      obtain ⟨hi2, h⟩ := jw_chk h
      refine xm_41 (j := x3.toNatClampNeg) (jSrd_ok hS rd) ly90 ⟨Nat.le_of_ble_eq_true rfl, Nat.le_of_ble_eq_true rfl⟩ hi2 rfl ?_
      refine xo_13 (ls' := [.ref 65, .int x1, .int x2, .int (x3 + 1), w4, w5]) rfl rfl ?_
      refine xo_54 (t := jm_b302_25) rfl ?_
      exact ih h
theorem t_X11_kinds {S : jS} (hS : jMok S) {d : Nat} {Q : Option Value → jx_H → Prop} {rd : Value} {x1 : Int32} {x2 : Int32} {σ : jT} (h : jw (f_X11_kinds x1 x2 σ) (fun q => Q (some (.int q.1)) (jh (jSrd S rd) q.2))) : jx_Sp (d + 2) 302 [.ref 65, .int x1, .int x2] (jh (jSrd S rd) σ) Q := by
  refine ⟨jm_i302, jm_at302, rfl, rfl, ?_⟩
  show jx_Ex _ jm_l302 jm_b302_0 [.ref 65, .int x1, .int x2, .retAddr 0, .retAddr 0, .retAddr 0] [] _ _
  unfold f_X11_kinds at h
  refine xo_2 rfl ?_
  refine xo_8 ?_
  refine xm_34 (i := 4172) (jSrd_ok hS rd) ly65 rfl ⟨Nat.le_of_ble_eq_true rfl, Nat.le_of_ble_eq_true rfl⟩ ?_
  refine xo_2 rfl ?_
  refine xo_0 rfl ?_
  refine xo_49 (st' := []) rfl rfl (xm_ly (jSrd_ok hS rd) ly65) rfl (Nat.le_of_ble_eq_true rfl) ?_
  refine t_X11_areThose hS ?_
  refine jw_mono (jw_bind h) (fun q1 h => ?_)
  show jx_Ex _ _ _ _ [.int q1.1] (jh (jSrd S rd) q1.2) _
  refine xo_55 (t := jm_b302_21) rfl (fun hc2 => ?_) (fun hc2 => ?_)
  · replace h := jw_pos hc2 h
    refine xo_8 ?_
    replace h := jw_some h
    exact xo_69 h
  · replace h := jw_neg hc2 h
    refine xo_2 rfl ?_
    refine xo_0 rfl ?_
    refine xo_49 (st' := []) rfl rfl (xm_ly (jSrd_ok hS rd) ly65) rfl (Nat.le_of_ble_eq_true rfl) ?_
    refine t_X11_isPlace hS ?_
    refine jw_mono (jw_bind h) (fun q3 h => ?_)
    show jx_Ex _ _ _ _ [.int q3.1] (jh (jSrd S rd) q3.2) _
    refine xo_56 (t := jm_b302_23) rfl (fun hc4 => ?_) (fun hc4 => ?_)
    · replace h := jw_pos hc4 h
      refine xo_8 ?_
      refine xo_4 (ls' := [.ref 65, .int x1, .int x2, .int 0, .retAddr 0, .retAddr 0]) rfl ?_
      exact t_X11_kinds_b25 hS 1000 h
    · replace h := jw_neg hc4 h
      refine xo_8 ?_
      replace h := jw_some h
      exact xo_69 h
/-- OfDifferentMindsModel.draw, at ['m', 'int'] K -/
def f_X11_draw (x1 : Int32) (σ : jT) : Option (Int32 × jT) :=
  if x1 = 0 then none else
  some (((((((σ.1 4206) * 1103515245) + 12345).toUInt32 >>> ((16 : Int32).toUInt32 &&& Int32.toUInt32 31)).toInt32) - (((((σ.1 4206) * 1103515245) + 12345).toUInt32 >>> ((16 : Int32).toUInt32 &&& Int32.toUInt32 31)).toInt32) / x1 * x1), (gs σ 4206 (((σ.1 4206) * 1103515245) + 12345)))
theorem t_X11_draw {S : jS} (hS : jMok S) {d : Nat} {Q : Option Value → jx_H → Prop} {rd : Value} {x1 : Int32} {σ : jT} (h : jw (f_X11_draw x1 σ) (fun q => Q (some (.int q.1)) (jh (jSrd S rd) q.2))) : jx_Sp (d) 303 [.ref 65, .int x1] (jh (jSrd S rd) σ) Q := by
  refine ⟨jm_i303, jm_at303, rfl, rfl, ?_⟩
  show jx_Ex _ jm_l303 jm_b303_0 [.ref 65, .int x1] [] _ _
  unfold f_X11_draw at h
  refine xo_2 rfl ?_
  refine xo_2 rfl ?_
  refine xm_32 (i := 4206) (v := (σ.1 4206)) (jSrd_ok hS rd) ly65 rfl ⟨Nat.le_of_ble_eq_true rfl, Nat.le_of_ble_eq_true rfl⟩ rfl ?_
  refine xo_12 ?_
  refine xo_16 ?_
  refine xo_10 ?_
  refine xo_14 ?_
  refine xm_34 (i := 4206) (jSrd_ok hS rd) ly65 rfl ⟨Nat.le_of_ble_eq_true rfl, Nat.le_of_ble_eq_true rfl⟩ ?_
  refine xo_2 rfl ?_
  refine xm_32 (i := 4206) (v := (((σ.1 4206) * 1103515245) + 12345)) (jSrd_ok hS rd) ly65 rfl ⟨Nat.le_of_ble_eq_true rfl, Nat.le_of_ble_eq_true rfl⟩ rfl ?_
  refine xo_9 ?_
  refine xo_25 ?_
  refine xo_0 rfl ?_
  obtain ⟨hy1, h⟩ := jw_chn h
  refine xo_18 hy1 ?_
  replace h := jw_some h
  exact xo_69 h
/-- OfDifferentMindsModel.county, at ['m', 'int', 'int'] U -/
def f_X11_county_b264 (x4 : Int32) (x5 : Int32) (s0 : Int32) (σ : jT) : Option (Int32 × jT) :=
  (f_X11_tell s0 σ).bind fun q1 =>
  (f_X11_tell x5 q1.2).bind fun q2 =>
  some (x4, q2.2)
def f_X11_county_b231 (k201 : Int32 → Int32 → Int32 → Int32 → Int32 → jT → Option (Int32 × jT)) (x3 : Int32) (x4 : Int32) (x5 : Int32) (x6 : Int32) (x7 : Int32) (σ : jT) : Option (Int32 × jT) :=
  k201 x3 x4 x5 x6 (x7 + 1) σ
def f_X11_county_b201 : Nat → Int32 → Int32 → Int32 → Int32 → Int32 → jT → Option (Int32 × jT)
  | 0, _, _, _, _, _, _ => none
  | n + 1, x3, x4, x5, x6, x7, σ =>
    if (σ.1 4165) ≤ x7 then
      (f_X11_tell x3 (gs σ 4171 0)).bind fun q2 =>
      if jx_in x6 6 then
      if ¬ (q2.2.2 91 x6.toNatClampNeg) = 0 then
        f_X11_county_b264 x4 x5 x6 q2.2
      else
        f_X11_county_b264 x4 x5 (-1) q2.2
      else none
    else
      if jx_in x7 6 then
      if jx_in x6 6 then
      if (σ.2 91 x7.toNatClampNeg) ≤ (σ.2 91 x6.toNatClampNeg) then
        f_X11_county_b231 (f_X11_county_b201 n) x3 x4 x5 x6 x7 σ
      else
        f_X11_county_b231 (f_X11_county_b201 n) x3 x4 x5 x7 x7 σ
      else none
      else none
def f_X11_county_b179 (k70 : Int32 → Int32 → Int32 → Int32 → Int32 → jT → Option (Int32 × jT)) (x2 : Int32) (x4 : Int32) (x6 : Int32) (s0 : Int32) (s1 : Int32) (σ : jT) : Option (Int32 × jT) :=
  k70 x2 (σ.2 82 0) x4 (s1 + s0) (x6 + 1) σ
def f_X11_county_b114 (k70 : Int32 → Int32 → Int32 → Int32 → Int32 → jT → Option (Int32 × jT)) (x2 : Int32) (x3 : Int32) (x4 : Int32) (x5 : Int32) (x6 : Int32) (x7 : Int32) (x8 : Int32) (σ : jT) : Option (Int32 × jT) :=
  (f_X11_mountThen x7 x8 x3 1 σ).bind fun q1 =>
  (f_X11_goRide_82 20 q1.2).bind fun q2 =>
  if jx_in x7 6 then
  if jx_in x8 6 then
  if ¬ q2.1 = 0 then
    f_X11_county_b179 k70 x2 (x4 + q2.1) x6 0 x5 (gA (gA q2.2 91 x7.toNatClampNeg ((q2.2.2 91 x7.toNatClampNeg) + q2.1)) 91 x8.toNatClampNeg (((gA q2.2 91 x7.toNatClampNeg ((q2.2.2 91 x7.toNatClampNeg) + q2.1)).2 91 x8.toNatClampNeg) + q2.1))
  else
    f_X11_county_b179 k70 x2 (x4 + q2.1) x6 1 x5 (gA (gA q2.2 91 x7.toNatClampNeg ((q2.2.2 91 x7.toNatClampNeg) + q2.1)) 91 x8.toNatClampNeg (((gA q2.2 91 x7.toNatClampNeg ((q2.2.2 91 x7.toNatClampNeg) + q2.1)).2 91 x8.toNatClampNeg) + q2.1))
  else none
  else none
def f_X11_county_b70 : Nat → Int32 → Int32 → Int32 → Int32 → Int32 → jT → Option (Int32 × jT)
  | 0, _, _, _, _, _, _ => none
  | n + 1, x2, x3, x4, x5, x6, σ =>
    if x2 ≤ x6 then
      f_X11_county_b201 1000 x3 x4 x5 0 1 σ
    else
      (f_X11_draw (σ.1 4165) σ).bind fun q2 =>
      (f_X11_draw (q2.2.1 4165) q2.2).bind fun q3 =>
      if ¬ q2.1 = q3.1 then
        f_X11_county_b114 (f_X11_county_b70 n) x2 x3 x4 x5 x6 q2.1 q3.1 q3.2
      else
        if (q3.2.1 4165) = 0 then none else
        f_X11_county_b114 (f_X11_county_b70 n) x2 x3 x4 x5 x6 q2.1 ((q3.1 + 1) - (q3.1 + 1) / (q3.2.1 4165) * (q3.2.1 4165)) q3.2
def f_X11_county_b35 : Nat → Int32 → Int32 → jT → Option (Int32 × jT)
  | 0, _, _, _ => none
  | n + 1, x2, x3, σ =>
    if 6 ≤ x3 then
      f_X11_county_b70 1000 x2 (σ.2 66 0) 0 0 0 σ
    else
      if jx_in x3 6 then
      f_X11_county_b35 n x2 (x3 + 1) (gA σ 91 x3.toNatClampNeg 0)
      else none
def f_X11_county (x1 : Int32) (x2 : Int32) (σ : jT) : Option (Int32 × jT) :=
  (f_X11_in x2 1 60 (gs σ 4172 0)).bind fun q1 =>
  if ¬ q1.1 = 0 then
    if 2 ≤ (q1.2.1 4165) then
      f_X11_county_b35 1000 x2 0 (gs q1.2 4206 x1)
    else
      some ((-2), q1.2)
  else
    some ((-1), q1.2)
theorem t_X11_county_b264 {S : jS} (hS : jMok S) {d : Nat} {Q : Option Value → jx_H → Prop} {rd : Value} {x4 : Int32} {x5 : Int32} {s0 : Int32} {w1 : Value} {w2 : Value} {w3 : Value} {w6 : Value} {w7 : Value} {w8 : Value} {w9 : Value} {σ : jT} (h : jw (f_X11_county_b264 x4 x5 s0 σ) (fun q => ∀ rd : Value, Q (some (.int q.1)) (jh (jSrd S rd) q.2))) : jx_Ex (d + 108) jm_l304 jm_b304_264 [.ref 65, w1, w2, w3, .int x4, .int x5, w6, w7, w8, w9] [.int s0, .ref 65] (jh (jSrd S rd) σ) Q := by
  unfold f_X11_county_b264 at h
  refine xo_49 (st' := []) rfl rfl (xm_ly (jSrd_ok hS rd) ly65) rfl (Nat.le_of_ble_eq_true rfl) ?_
  refine t_X11_tell hS ?_
  refine jw_mono (jw_bind h) (fun q1 h => ?_)
  show jx_Ex _ _ _ _ [] (jh (jSrd S rd) q1.2) _
  refine xo_2 rfl ?_
  refine xo_1 rfl ?_
  refine xo_49 (st' := []) rfl rfl (xm_ly (jSrd_ok hS rd) ly65) rfl (Nat.le_of_ble_eq_true rfl) ?_
  refine t_X11_tell hS ?_
  refine jw_mono (jw_bind h) (fun q2 h => ?_)
  show jx_Ex _ _ _ _ [] (jh (jSrd S rd) q2.2) _
  refine xo_1 rfl ?_
  replace h := jw_some h
  exact xo_69 (h rd)
theorem t_X11_county_b231 {S : jS} (hS : jMok S) {d : Nat} {Q : Option Value → jx_H → Prop} {k201 : Int32 → Int32 → Int32 → Int32 → Int32 → jT → Option (Int32 × jT)} (hk201 : ∀ {rd : Value} {x3 : Int32} {x4 : Int32} {x5 : Int32} {x6 : Int32} {x7 : Int32} {w1 : Value} {w2 : Value} {w8 : Value} {w9 : Value} {σ : jT}, jw (k201 x3 x4 x5 x6 x7 σ) (fun q => ∀ rd : Value, Q (some (.int q.1)) (jh (jSrd S rd) q.2)) → jx_Ex (d + 108) jm_l304 jm_b304_201 [.ref 65, w1, w2, .int x3, .int x4, .int x5, .int x6, .int x7, w8, w9] [] (jh (jSrd S rd) σ) Q) {rd : Value} {x3 : Int32} {x4 : Int32} {x5 : Int32} {x6 : Int32} {x7 : Int32} {w1 : Value} {w2 : Value} {w8 : Value} {w9 : Value} {σ : jT} (h : jw (f_X11_county_b231 k201 x3 x4 x5 x6 x7 σ) (fun q => ∀ rd : Value, Q (some (.int q.1)) (jh (jSrd S rd) q.2))) : jx_Ex (d + 108) jm_l304 jm_b304_231 [.ref 65, w1, w2, .int x3, .int x4, .int x5, .int x6, .int x7, w8, w9] [] (jh (jSrd S rd) σ) Q := by
  unfold f_X11_county_b231 at h
  refine xo_13 (ls' := [.ref 65, w1, w2, .int x3, .int x4, .int x5, .int x6, .int (x7 + 1), w8, w9]) rfl rfl ?_
  refine xo_54 (t := jm_b304_201) rfl ?_
  exact hk201 h
theorem t_X11_county_b201 {S : jS} (hS : jMok S) {d : Nat} {Q : Option Value → jx_H → Prop} : ∀ (n : Nat) {rd : Value} {x3 : Int32} {x4 : Int32} {x5 : Int32} {x6 : Int32} {x7 : Int32} {w1 : Value} {w2 : Value} {w8 : Value} {w9 : Value} {σ : jT}, jw (f_X11_county_b201 n x3 x4 x5 x6 x7 σ) (fun q => ∀ rd : Value, Q (some (.int q.1)) (jh (jSrd S rd) q.2)) → jx_Ex (d + 108) jm_l304 jm_b304_201 [.ref 65, w1, w2, .int x3, .int x4, .int x5, .int x6, .int x7, w8, w9] [] (jh (jSrd S rd) σ) Q := by
  intro n
  induction n with
  | zero => intro rd x3 x4 x5 x6 x7 w1 w2 w8 w9 σ h; exact jw_none h
  | succ n ih =>
    intro rd x3 x4 x5 x6 x7 w1 w2 w8 w9 σ h
    rw [f_X11_county_b201] at h
    refine xo_1 rfl ?_
    refine xo_2 rfl ?_
    refine xm_32 (i := 4165) (v := (σ.1 4165)) (jSrd_ok hS rd) ly65 rfl ⟨Nat.le_of_ble_eq_true rfl, Nat.le_of_ble_eq_true rfl⟩ rfl ?_
    refine xo_64 (t := jm_b304_237) rfl (fun hc1 => ?_) (fun hc1 => ?_)
    · replace h := jw_pos hc1 h
      refine xo_2 rfl ?_
      refine xo_8 ?_
      refine xm_34 (i := 4171) (jSrd_ok hS rd) ly65 rfl ⟨Nat.le_of_ble_eq_true rfl, Nat.le_of_ble_eq_true rfl⟩ ?_
      refine xo_2 rfl ?_
      refine xo_0 rfl ?_
      refine xo_49 (st' := []) rfl rfl (xm_ly (jSrd_ok hS rd) ly65) rfl (Nat.le_of_ble_eq_true rfl) ?_
      refine t_X11_tell hS ?_
      refine jw_mono (jw_bind h) (fun q2 h => ?_)
      show jx_Ex _ _ _ _ [] (jh (jSrd S rd) q2.2) _
      refine xo_2 rfl ?_
      refine xo_2 rfl ?_
      refine xm_33 (i := 4207) (q := 91) (jSrd_ok hS rd) ly65 rfl (xm_P (jSrd_ok hS rd) (by decide)) ?_
      refine xo_1 rfl ?_
      obtain ⟨hi3, h⟩ := jw_chk h
      refine xm_38 (j := x6.toNatClampNeg) (v := (q2.2.2 91 x6.toNatClampNeg)) (jSrd_ok hS rd) ly91 ⟨Nat.le_of_ble_eq_true rfl, Nat.le_of_ble_eq_true rfl⟩ hi3 rfl rfl ?_
      refine xo_56 (t := jm_b304_262) rfl (fun hc4 => ?_) (fun hc4 => ?_)
      · replace h := jw_pos hc4 h
        refine xo_1 rfl ?_
        exact t_X11_county_b264 hS h
      · replace h := jw_neg hc4 h
        refine xo_8 ?_
        refine xo_54 (t := jm_b304_264) rfl ?_
        exact t_X11_county_b264 hS h
    · replace h := jw_neg hc1 h
      refine xo_2 rfl ?_
      refine xm_33 (i := 4207) (q := 91) (jSrd_ok hS rd) ly65 rfl (xm_P (jSrd_ok hS rd) (by decide)) ?_
      refine xo_1 rfl ?_
      obtain ⟨hi5, h⟩ := jw_chk h
      refine xm_38 (j := x7.toNatClampNeg) (v := (σ.2 91 x7.toNatClampNeg)) (jSrd_ok hS rd) ly91 ⟨Nat.le_of_ble_eq_true rfl, Nat.le_of_ble_eq_true rfl⟩ hi5 rfl rfl ?_
      refine xo_2 rfl ?_
      refine xm_33 (i := 4207) (q := 91) (jSrd_ok hS rd) ly65 rfl (xm_P (jSrd_ok hS rd) (by decide)) ?_
      refine xo_1 rfl ?_
      obtain ⟨hi6, h⟩ := jw_chk h
      refine xm_38 (j := x6.toNatClampNeg) (v := (σ.2 91 x6.toNatClampNeg)) (jSrd_ok hS rd) ly91 ⟨Nat.le_of_ble_eq_true rfl, Nat.le_of_ble_eq_true rfl⟩ hi6 rfl rfl ?_
      refine xo_66 (t := jm_b304_231) rfl (fun hc7 => ?_) (fun hc7 => ?_)
      · replace h := jw_pos hc7 h
        exact t_X11_county_b231 hS ih h
      · replace h := jw_neg hc7 h
        refine xo_1 rfl ?_
        refine xo_5 (ls' := [.ref 65, w1, w2, .int x3, .int x4, .int x5, .int x7, .int x7, w8, w9]) rfl ?_
        exact t_X11_county_b231 hS ih h
theorem t_X11_county_b179 {S : jS} (hS : jMok S) {d : Nat} {Q : Option Value → jx_H → Prop} {k70 : Int32 → Int32 → Int32 → Int32 → Int32 → jT → Option (Int32 × jT)} (hk70 : ∀ {rd : Value} {x2 : Int32} {x3 : Int32} {x4 : Int32} {x5 : Int32} {x6 : Int32} {w1 : Value} {w7 : Value} {w8 : Value} {w9 : Value} {σ : jT}, jw (k70 x2 x3 x4 x5 x6 σ) (fun q => ∀ rd : Value, Q (some (.int q.1)) (jh (jSrd S rd) q.2)) → jx_Ex (d + 108) jm_l304 jm_b304_70 [.ref 65, w1, .int x2, .int x3, .int x4, .int x5, .int x6, w7, w8, w9] [] (jh (jSrd S rd) σ) Q) {rd : Value} {x2 : Int32} {x4 : Int32} {x6 : Int32} {s0 : Int32} {s1 : Int32} {w1 : Value} {w3 : Value} {w5 : Value} {w7 : Value} {w8 : Value} {w9 : Value} {σ : jT} (h : jw (f_X11_county_b179 k70 x2 x4 x6 s0 s1 σ) (fun q => ∀ rd : Value, Q (some (.int q.1)) (jh (jSrd S rd) q.2))) : jx_Ex (d + 108) jm_l304 jm_b304_179 [.ref 65, w1, .int x2, w3, .int x4, w5, .int x6, w7, w8, w9] [.int s0, .int s1] (jh (jSrd S rd) σ) Q := by
  unfold f_X11_county_b179 at h
  refine xo_14 ?_
  refine xo_5 (ls' := [.ref 65, w1, .int x2, w3, .int x4, .int (s1 + s0), .int x6, w7, w8, w9]) rfl ?_
  refine xo_2 rfl ?_
  refine xm_33 (i := 4194) (q := 82) (jSrd_ok hS rd) ly65 rfl (xm_P (jSrd_ok hS rd) (by decide)) ?_
  refine xo_8 ?_
  refine xm_38 (j := 0) (v := (σ.2 82 0)) (jSrd_ok hS rd) ly82 ⟨Nat.le_of_ble_eq_true rfl, Nat.le_of_ble_eq_true rfl⟩ (by decide) (by decide) rfl ?_
  refine xo_4 (ls' := [.ref 65, w1, .int x2, .int (σ.2 82 0), .int x4, .int (s1 + s0), .int x6, w7, w8, w9]) rfl ?_
  refine xo_13 (ls' := [.ref 65, w1, .int x2, .int (σ.2 82 0), .int x4, .int (s1 + s0), .int (x6 + 1), w7, w8, w9]) rfl rfl ?_
  refine xo_54 (t := jm_b304_70) rfl ?_
  exact hk70 h
theorem t_X11_county_b114 {S : jS} (hS : jMok S) {d : Nat} {Q : Option Value → jx_H → Prop} {k70 : Int32 → Int32 → Int32 → Int32 → Int32 → jT → Option (Int32 × jT)} (hk70 : ∀ {rd : Value} {x2 : Int32} {x3 : Int32} {x4 : Int32} {x5 : Int32} {x6 : Int32} {w1 : Value} {w7 : Value} {w8 : Value} {w9 : Value} {σ : jT}, jw (k70 x2 x3 x4 x5 x6 σ) (fun q => ∀ rd : Value, Q (some (.int q.1)) (jh (jSrd S rd) q.2)) → jx_Ex (d + 108) jm_l304 jm_b304_70 [.ref 65, w1, .int x2, .int x3, .int x4, .int x5, .int x6, w7, w8, w9] [] (jh (jSrd S rd) σ) Q) {rd : Value} {x2 : Int32} {x3 : Int32} {x4 : Int32} {x5 : Int32} {x6 : Int32} {x7 : Int32} {x8 : Int32} {w1 : Value} {w9 : Value} {σ : jT} (h : jw (f_X11_county_b114 k70 x2 x3 x4 x5 x6 x7 x8 σ) (fun q => ∀ rd : Value, Q (some (.int q.1)) (jh (jSrd S rd) q.2))) : jx_Ex (d + 108) jm_l304 jm_b304_114 [.ref 65, w1, .int x2, .int x3, .int x4, .int x5, .int x6, .int x7, .int x8, w9] [] (jh (jSrd S rd) σ) Q := by
  unfold f_X11_county_b114 at h
  refine xo_2 rfl ?_
  refine xo_1 rfl ?_
  refine xo_1 rfl ?_
  refine xo_0 rfl ?_
  refine xo_8 ?_
  refine xo_49 (st' := []) rfl rfl (xm_ly (jSrd_ok hS rd) ly65) rfl (Nat.le_of_ble_eq_true rfl) ?_
  refine t_X11_mountThen hS ?_
  refine jw_mono (jw_bind h) (fun q1 h => ?_)
  show jx_Ex _ _ _ _ [] (jh (jSrd S rd) q1.2) _
  refine xo_2 rfl ?_
  refine xo_2 rfl ?_
  refine xm_33 (i := 4194) (q := 82) (jSrd_ok hS rd) ly65 rfl (xm_P (jSrd_ok hS rd) (by decide)) ?_
  refine xo_9 ?_
  refine xo_49 (st' := []) rfl rfl (xm_ly (jSrd_ok hS rd) ly65) rfl (Nat.le_of_ble_eq_true rfl) ?_
  refine t_X11_goRide_82 hS ?_
  refine jw_mono (jw_bind h) (fun q2 h rd3 => ?_)
  show jx_Ex _ _ _ _ [.int q2.1] (jh (jSrd S rd3) q2.2) _
  refine xo_5 (ls' := [.ref 65, w1, .int x2, .int x3, .int x4, .int x5, .int x6, .int x7, .int x8, .int q2.1]) rfl ?_
  refine xo_2 rfl ?_
  refine xm_33 (i := 4207) (q := 91) (jSrd_ok hS rd3) ly65 rfl (xm_P (jSrd_ok hS rd3) (by decide)) ?_
  refine xo_1 rfl ?_
  refine xo_29 ?_
  obtain ⟨hi4, h⟩ := jw_chk h
  refine xm_38 (j := x7.toNatClampNeg) (v := (q2.2.2 91 x7.toNatClampNeg)) (jSrd_ok hS rd3) ly91 ⟨Nat.le_of_ble_eq_true rfl, Nat.le_of_ble_eq_true rfl⟩ hi4 rfl rfl ?_
  refine xo_1 rfl ?_
  refine xo_14 ?_
  refine xm_41 (j := x7.toNatClampNeg) (jSrd_ok hS rd3) ly91 ⟨Nat.le_of_ble_eq_true rfl, Nat.le_of_ble_eq_true rfl⟩ hi4 rfl ?_
  refine xo_2 rfl ?_
  refine xm_33 (i := 4207) (q := 91) (jSrd_ok hS rd3) ly65 rfl (xm_P (jSrd_ok hS rd3) (by decide)) ?_
  refine xo_1 rfl ?_
  refine xo_29 ?_
  obtain ⟨hi5, h⟩ := jw_chk h
  refine xm_38 (j := x8.toNatClampNeg) (v := ((gA q2.2 91 x7.toNatClampNeg ((q2.2.2 91 x7.toNatClampNeg) + q2.1)).2 91 x8.toNatClampNeg)) (jSrd_ok hS rd3) ly91 ⟨Nat.le_of_ble_eq_true rfl, Nat.le_of_ble_eq_true rfl⟩ hi5 rfl rfl ?_
  refine xo_1 rfl ?_
  refine xo_14 ?_
  refine xm_41 (j := x8.toNatClampNeg) (jSrd_ok hS rd3) ly91 ⟨Nat.le_of_ble_eq_true rfl, Nat.le_of_ble_eq_true rfl⟩ hi5 rfl ?_
  refine xo_1 rfl ?_
  refine xo_1 rfl ?_
  refine xo_14 ?_
  refine xo_5 (ls' := [.ref 65, w1, .int x2, .int x3, .int (x4 + q2.1), .int x5, .int x6, .int x7, .int x8, .int q2.1]) rfl ?_
  refine xo_1 rfl ?_
  refine xo_1 rfl ?_
  refine xo_56 (t := jm_b304_178) rfl (fun hc6 => ?_) (fun hc6 => ?_)
  · replace h := jw_pos hc6 h
    refine xo_8 ?_
    exact t_X11_county_b179 hS hk70 h
  · replace h := jw_neg hc6 h
    refine xo_8 ?_
    refine xo_54 (t := jm_b304_179) rfl ?_
    exact t_X11_county_b179 hS hk70 h
theorem t_X11_county_b70 {S : jS} (hS : jMok S) {d : Nat} {Q : Option Value → jx_H → Prop} : ∀ (n : Nat) {rd : Value} {x2 : Int32} {x3 : Int32} {x4 : Int32} {x5 : Int32} {x6 : Int32} {w1 : Value} {w7 : Value} {w8 : Value} {w9 : Value} {σ : jT}, jw (f_X11_county_b70 n x2 x3 x4 x5 x6 σ) (fun q => ∀ rd : Value, Q (some (.int q.1)) (jh (jSrd S rd) q.2)) → jx_Ex (d + 108) jm_l304 jm_b304_70 [.ref 65, w1, .int x2, .int x3, .int x4, .int x5, .int x6, w7, w8, w9] [] (jh (jSrd S rd) σ) Q := by
  intro n
  induction n with
  | zero => intro rd x2 x3 x4 x5 x6 w1 w7 w8 w9 σ h; exact jw_none h
  | succ n ih =>
    intro rd x2 x3 x4 x5 x6 w1 w7 w8 w9 σ h
    rw [f_X11_county_b70] at h
    refine xo_1 rfl ?_
    refine xo_0 rfl ?_
    refine xo_64 (t := jm_b304_195) rfl (fun hc1 => ?_) (fun hc1 => ?_)
    · replace h := jw_pos hc1 h
      refine xo_8 ?_
      refine xo_5 (ls' := [.ref 65, w1, .int x2, .int x3, .int x4, .int x5, .int 0, w7, w8, w9]) rfl ?_
      refine xo_8 ?_
      refine xo_5 (ls' := [.ref 65, w1, .int x2, .int x3, .int x4, .int x5, .int 0, .int 1, w8, w9]) rfl ?_
      exact t_X11_county_b201 hS 1000 h
    · replace h := jw_neg hc1 h
      refine xo_2 rfl ?_
      refine xo_2 rfl ?_
      refine xm_32 (i := 4165) (v := (σ.1 4165)) (jSrd_ok hS rd) ly65 rfl ⟨Nat.le_of_ble_eq_true rfl, Nat.le_of_ble_eq_true rfl⟩ rfl ?_
      refine xo_49 (st' := []) rfl rfl (xm_ly (jSrd_ok hS rd) ly65) rfl (Nat.le_of_ble_eq_true rfl) ?_
      refine t_X11_draw hS ?_
      refine jw_mono (jw_bind h) (fun q2 h => ?_)
      show jx_Ex _ _ _ _ [.int q2.1] (jh (jSrd S rd) q2.2) _
      refine xo_5 (ls' := [.ref 65, w1, .int x2, .int x3, .int x4, .int x5, .int x6, .int q2.1, w8, w9]) rfl ?_
      refine xo_2 rfl ?_
      refine xo_2 rfl ?_
      refine xm_32 (i := 4165) (v := (q2.2.1 4165)) (jSrd_ok hS rd) ly65 rfl ⟨Nat.le_of_ble_eq_true rfl, Nat.le_of_ble_eq_true rfl⟩ rfl ?_
      refine xo_49 (st' := []) rfl rfl (xm_ly (jSrd_ok hS rd) ly65) rfl (Nat.le_of_ble_eq_true rfl) ?_
      refine t_X11_draw hS ?_
      refine jw_mono (jw_bind h) (fun q3 h => ?_)
      show jx_Ex _ _ _ _ [.int q3.1] (jh (jSrd S rd) q3.2) _
      refine xo_5 (ls' := [.ref 65, w1, .int x2, .int x3, .int x4, .int x5, .int x6, .int q2.1, .int q3.1, w9]) rfl ?_
      refine xo_1 rfl ?_
      refine xo_1 rfl ?_
      refine xo_62 (t := jm_b304_114) rfl (fun hc4 => ?_) (fun hc4 => ?_)
      · replace h := jw_pos hc4 h
        exact t_X11_county_b114 hS ih h
      · replace h := jw_neg hc4 h
        refine xo_1 rfl ?_
        refine xo_8 ?_
        refine xo_14 ?_
        refine xo_2 rfl ?_
        refine xm_32 (i := 4165) (v := (q3.2.1 4165)) (jSrd_ok hS rd) ly65 rfl ⟨Nat.le_of_ble_eq_true rfl, Nat.le_of_ble_eq_true rfl⟩ rfl ?_
        obtain ⟨hy5, h⟩ := jw_chn h
        refine xo_18 hy5 ?_
        refine xo_5 (ls' := [.ref 65, w1, .int x2, .int x3, .int x4, .int x5, .int x6, .int q2.1, .int ((q3.1 + 1) - (q3.1 + 1) / (q3.2.1 4165) * (q3.2.1 4165)), w9]) rfl ?_
        exact t_X11_county_b114 hS ih h
theorem t_X11_county_b35 {S : jS} (hS : jMok S) {d : Nat} {Q : Option Value → jx_H → Prop} : ∀ (n : Nat) {rd : Value} {x2 : Int32} {x3 : Int32} {w1 : Value} {w4 : Value} {w5 : Value} {w6 : Value} {w7 : Value} {w8 : Value} {w9 : Value} {σ : jT}, jw (f_X11_county_b35 n x2 x3 σ) (fun q => ∀ rd : Value, Q (some (.int q.1)) (jh (jSrd S rd) q.2)) → jx_Ex (d + 108) jm_l304 jm_b304_35 [.ref 65, w1, .int x2, .int x3, w4, w5, w6, w7, w8, w9] [] (jh (jSrd S rd) σ) Q := by
  intro n
  induction n with
  | zero => intro rd x2 x3 w1 w4 w5 w6 w7 w8 w9 σ h; exact jw_none h
  | succ n ih =>
    intro rd x2 x3 w1 w4 w5 w6 w7 w8 w9 σ h
    rw [f_X11_county_b35] at h
    refine xo_0 rfl ?_
    refine xo_9 ?_
    refine xo_64 (t := jm_b304_54) rfl (fun hc1 => ?_) (fun hc1 => ?_)
    · replace h := jw_pos hc1 h
      refine xo_2 rfl ?_
      refine xm_33 (i := 4160) (q := 66) (jSrd_ok hS rd) ly65 rfl (xm_P (jSrd_ok hS rd) (by decide)) ?_
      refine xo_8 ?_
      refine xm_38 (j := 0) (v := (σ.2 66 0)) (jSrd_ok hS rd) ly66 ⟨Nat.le_of_ble_eq_true rfl, Nat.le_of_ble_eq_true rfl⟩ (by decide) (by decide) rfl ?_
      refine xo_4 (ls' := [.ref 65, w1, .int x2, .int (σ.2 66 0), w4, w5, w6, w7, w8, w9]) rfl ?_
      refine xo_8 ?_
      refine xo_5 (ls' := [.ref 65, w1, .int x2, .int (σ.2 66 0), .int 0, w5, w6, w7, w8, w9]) rfl ?_
      refine xo_8 ?_
      refine xo_5 (ls' := [.ref 65, w1, .int x2, .int (σ.2 66 0), .int 0, .int 0, w6, w7, w8, w9]) rfl ?_
      refine xo_8 ?_
      refine xo_5 (ls' := [.ref 65, w1, .int x2, .int (σ.2 66 0), .int 0, .int 0, .int 0, w7, w8, w9]) rfl ?_
      exact t_X11_county_b70 hS 1000 h
    · replace h := jw_neg hc1 h
      refine xo_2 rfl ?_
      refine xm_33 (i := 4207) (q := 91) (jSrd_ok hS rd) ly65 rfl (xm_P (jSrd_ok hS rd) (by decide)) ?_
      refine xo_0 rfl ?_
      refine xo_8 ?_
      obtain ⟨hi2, h⟩ := jw_chk h
      refine xm_41 (j := x3.toNatClampNeg) (jSrd_ok hS rd) ly91 ⟨Nat.le_of_ble_eq_true rfl, Nat.le_of_ble_eq_true rfl⟩ hi2 rfl ?_
      refine xo_13 (ls' := [.ref 65, w1, .int x2, .int (x3 + 1), w4, w5, w6, w7, w8, w9]) rfl rfl ?_
      refine xo_54 (t := jm_b304_35) rfl ?_
      exact ih h
theorem t_X11_county {S : jS} (hS : jMok S) {d : Nat} {Q : Option Value → jx_H → Prop} {rd : Value} {x1 : Int32} {x2 : Int32} {σ : jT} (h : jw (f_X11_county x1 x2 σ) (fun q => ∀ rd : Value, Q (some (.int q.1)) (jh (jSrd S rd) q.2))) : jx_Sp (d + 108) 304 [.ref 65, .int x1, .int x2] (jh (jSrd S rd) σ) Q := by
  refine ⟨jm_i304, jm_at304, rfl, rfl, ?_⟩
  show jx_Ex _ jm_l304 jm_b304_0 [.ref 65, .int x1, .int x2, .retAddr 0, .retAddr 0, .retAddr 0, .retAddr 0, .retAddr 0, .retAddr 0, .retAddr 0] [] _ _
  unfold f_X11_county at h
  refine xo_2 rfl ?_
  refine xo_8 ?_
  refine xm_34 (i := 4172) (jSrd_ok hS rd) ly65 rfl ⟨Nat.le_of_ble_eq_true rfl, Nat.le_of_ble_eq_true rfl⟩ ?_
  refine xo_0 rfl ?_
  refine xo_8 ?_
  refine xo_9 ?_
  refine xo_50 (st' := []) rfl rfl rfl (Nat.le_of_ble_eq_true rfl) ?_
  refine t_X11_in hS ?_
  refine jw_mono (jw_bind h) (fun q1 h => ?_)
  show jx_Ex _ _ _ _ [.int q1.1] (jh (jSrd S rd) q1.2) _
  refine xo_56 (t := jm_b304_17) rfl (fun hc2 => ?_) (fun hc2 => ?_)
  · replace h := jw_pos hc2 h
    refine xo_2 rfl ?_
    refine xm_32 (i := 4165) (v := (q1.2.1 4165)) (jSrd_ok hS rd) ly65 rfl ⟨Nat.le_of_ble_eq_true rfl, Nat.le_of_ble_eq_true rfl⟩ rfl ?_
    refine xo_8 ?_
    refine xo_64 (t := jm_b304_28) rfl (fun hc3 => ?_) (fun hc3 => ?_)
    · replace h := jw_pos hc3 h
      refine xo_2 rfl ?_
      refine xo_0 rfl ?_
      refine xm_34 (i := 4206) (jSrd_ok hS rd) ly65 rfl ⟨Nat.le_of_ble_eq_true rfl, Nat.le_of_ble_eq_true rfl⟩ ?_
      refine xo_8 ?_
      refine xo_4 (ls' := [.ref 65, .int x1, .int x2, .int 0, .retAddr 0, .retAddr 0, .retAddr 0, .retAddr 0, .retAddr 0, .retAddr 0]) rfl ?_
      exact t_X11_county_b35 hS 1000 h
    · replace h := jw_neg hc3 h
      refine xo_9 ?_
      replace h := jw_some h
      exact xo_69 (h rd)
  · replace h := jw_neg hc2 h
    refine xo_8 ?_
    replace h := jw_some h
    exact xo_69 (h rd)
/-- OfDifferentMindsModel.lay, at ['m.now', 'm.kept', 'int'] K -/
def f_X11_lay_66_92_b2 : Nat → Int32 → Int32 → jT → Option (Int32 × jT)
  | 0, _, _, _ => none
  | n + 1, x2, x3, σ =>
    if 28 ≤ x3 then
      some (0, σ)
    else
      if jx_in x3 28 then
      if jx_in (x2 + x3) 56 then
      f_X11_lay_66_92_b2 n x2 (x3 + 1) (gA σ 92 (x2 + x3).toNatClampNeg (σ.2 66 x3.toNatClampNeg))
      else none
      else none
def f_X11_lay_66_92 (x2 : Int32) (σ : jT) : Option (Int32 × jT) :=
  f_X11_lay_66_92_b2 1000 x2 0 σ
theorem t_X11_lay_66_92_b2 {S : jS} (hS : jMok S) {d : Nat} {Q : Option Value → jx_H → Prop} {rd : Value} : ∀ (n : Nat) {x2 : Int32} {x3 : Int32} {σ : jT}, jw (f_X11_lay_66_92_b2 n x2 x3 σ) (fun q => Q none (jh (jSrd S rd) q.2)) → jx_Ex (d) jm_l241 jm_b241_2 [.ref 66, .ref 92, .int x2, .int x3] [] (jh (jSrd S rd) σ) Q := by
  intro n
  induction n with
  | zero => intro x2 x3 σ h; exact jw_none h
  | succ n ih =>
    intro x2 x3 σ h
    rw [f_X11_lay_66_92_b2] at h
    refine xo_0 rfl ?_
    refine xo_9 ?_
    refine xo_64 (t := jm_b241_22) rfl (fun hc1 => ?_) (fun hc1 => ?_)
    · replace h := jw_pos hc1 h
      replace h := jw_some h
      exact xo_71 h
    · replace h := jw_neg hc1 h
      refine xo_2 rfl ?_
      refine xo_0 rfl ?_
      refine xo_0 rfl ?_
      refine xo_14 ?_
      refine xo_2 rfl ?_
      refine xo_0 rfl ?_
      obtain ⟨hi2, h⟩ := jw_chk h
      refine xm_38 (j := x3.toNatClampNeg) (v := (σ.2 66 x3.toNatClampNeg)) (jSrd_ok hS rd) ly66 ⟨Nat.le_of_ble_eq_true rfl, Nat.le_of_ble_eq_true rfl⟩ hi2 rfl rfl ?_
      obtain ⟨hi3, h⟩ := jw_chk h
      refine xm_41 (j := (x2 + x3).toNatClampNeg) (jSrd_ok hS rd) ly92 ⟨Nat.le_of_ble_eq_true rfl, Nat.le_of_ble_eq_true rfl⟩ hi3 rfl ?_
      refine xo_13 (ls' := [.ref 66, .ref 92, .int x2, .int (x3 + 1)]) rfl rfl ?_
      refine xo_54 (t := jm_b241_2) rfl ?_
      exact ih h
theorem t_X11_lay_66_92 {S : jS} (hS : jMok S) {d : Nat} {Q : Option Value → jx_H → Prop} {rd : Value} {x2 : Int32} {σ : jT} (h : jw (f_X11_lay_66_92 x2 σ) (fun q => Q none (jh (jSrd S rd) q.2))) : jx_Sp (d) 241 [.ref 66, .ref 92, .int x2] (jh (jSrd S rd) σ) Q := by
  refine ⟨jm_i241, jm_at241, rfl, rfl, ?_⟩
  show jx_Ex _ jm_l241 jm_b241_0 [.ref 66, .ref 92, .int x2, .retAddr 0] [] _ _
  unfold f_X11_lay_66_92 at h
  refine xo_8 ?_
  refine xo_4 (ls' := [.ref 66, .ref 92, .int x2, .int 0]) rfl ?_
  exact t_X11_lay_66_92_b2 hS 1000 h
/-- OfDifferentMindsModel.keep, at ['m', 'int'] K -/
def f_X11_keep (x1 : Int32) (σ : jT) : Option (Int32 × jT) :=
  (f_X11_in x1 0 1 (gs σ 4172 0)).bind fun q1 =>
  if ¬ q1.1 = 0 then
    if jx_in x1 2 then
    (f_X11_lay_66_92 (28 * x1) (gA (gA q1.2 93 x1.toNatClampNeg (1 &&& 1)) 94 x1.toNatClampNeg (q1.2.1 4208))).bind fun q4 =>
    some (1, q4.2)
    else none
  else
    some (0, q1.2)
theorem t_X11_keep {S : jS} (hS : jMok S) {d : Nat} {Q : Option Value → jx_H → Prop} {rd : Value} {x1 : Int32} {σ : jT} (h : jw (f_X11_keep x1 σ) (fun q => Q (some (.int q.1)) (jh (jSrd S rd) q.2))) : jx_Sp (d + 1) 305 [.ref 65, .int x1] (jh (jSrd S rd) σ) Q := by
  refine ⟨jm_i305, jm_at305, rfl, rfl, ?_⟩
  show jx_Ex _ jm_l305 jm_b305_0 [.ref 65, .int x1] [] _ _
  unfold f_X11_keep at h
  refine xo_2 rfl ?_
  refine xo_8 ?_
  refine xm_34 (i := 4172) (jSrd_ok hS rd) ly65 rfl ⟨Nat.le_of_ble_eq_true rfl, Nat.le_of_ble_eq_true rfl⟩ ?_
  refine xo_0 rfl ?_
  refine xo_8 ?_
  refine xo_8 ?_
  refine xo_50 (st' := []) rfl rfl rfl (Nat.le_of_ble_eq_true rfl) ?_
  refine t_X11_in hS ?_
  refine jw_mono (jw_bind h) (fun q1 h => ?_)
  show jx_Ex _ _ _ _ [.int q1.1] (jh (jSrd S rd) q1.2) _
  refine xo_56 (t := jm_b305_16) rfl (fun hc2 => ?_) (fun hc2 => ?_)
  · replace h := jw_pos hc2 h
    refine xo_2 rfl ?_
    refine xm_33 (i := 4210) (q := 93) (jSrd_ok hS rd) ly65 rfl (xm_P (jSrd_ok hS rd) (by decide)) ?_
    refine xo_0 rfl ?_
    refine xo_8 ?_
    obtain ⟨hi3, h⟩ := jw_chk h
    refine xm_42z (j := x1.toNatClampNeg) (jSrd_ok hS rd) ly93 ⟨Nat.le_of_ble_eq_true rfl, Nat.le_of_ble_eq_true rfl⟩ hi3 rfl ?_
    refine xo_2 rfl ?_
    refine xm_33 (i := 4211) (q := 94) (jSrd_ok hS rd) ly65 rfl (xm_P (jSrd_ok hS rd) (by decide)) ?_
    refine xo_0 rfl ?_
    refine xo_2 rfl ?_
    refine xm_32 (i := 4208) (v := (q1.2.1 4208)) (jSrd_ok hS rd) ly65 rfl ⟨Nat.le_of_ble_eq_true rfl, Nat.le_of_ble_eq_true rfl⟩ rfl ?_
    refine xm_41 (j := x1.toNatClampNeg) (jSrd_ok hS rd) ly94 ⟨Nat.le_of_ble_eq_true rfl, Nat.le_of_ble_eq_true rfl⟩ hi3 rfl ?_
    refine xo_2 rfl ?_
    refine xm_33 (i := 4160) (q := 66) (jSrd_ok hS rd) ly65 rfl (xm_P (jSrd_ok hS rd) (by decide)) ?_
    refine xo_2 rfl ?_
    refine xm_33 (i := 4209) (q := 92) (jSrd_ok hS rd) ly65 rfl (xm_P (jSrd_ok hS rd) (by decide)) ?_
    refine xo_9 ?_
    refine xo_0 rfl ?_
    refine xo_16 ?_
    refine xo_50 (st' := []) rfl rfl rfl (Nat.le_of_ble_eq_true rfl) ?_
    refine t_X11_lay_66_92 hS ?_
    refine jw_mono (jw_bind h) (fun q4 h => ?_)
    show jx_Ex _ _ _ _ [] (jh (jSrd S rd) q4.2) _
    refine xo_8 ?_
    replace h := jw_some h
    exact xo_70 (by decide) h
  · replace h := jw_neg hc2 h
    refine xo_8 ?_
    replace h := jw_some h
    exact xo_70 (by decide) h
/-- OfDifferentMindsModel.again, at ['m', 'int'] K -/
def f_X11_again_b40 : Nat → Int32 → Int32 → jT → Option (Int32 × jT)
  | 0, _, _, _ => none
  | n + 1, x1, x2, σ =>
    if 28 ≤ x2 then
      (f_X11_capSpent σ).bind fun q2 =>
      some (1, (gs q2.2 4189 0))
    else
      if jx_in ((28 * x1) + x2) 56 then
      if jx_in x2 28 then
      f_X11_again_b40 n x1 (x2 + 1) (gA σ 66 x2.toNatClampNeg (σ.2 92 ((28 * x1) + x2).toNatClampNeg))
      else none
      else none
def f_X11_again (x1 : Int32) (σ : jT) : Option (Int32 × jT) :=
  (f_X11_in x1 0 1 (gs σ 4172 0)).bind fun q1 =>
  if q1.1 = 0 then
    some (0, q1.2)
  else
    if jx_in x1 2 then
    if (q1.2.2 93 x1.toNatClampNeg) = 0 then
      some (0, q1.2)
    else
      if (q1.2.2 94 x1.toNatClampNeg) = (q1.2.1 4208) then
        f_X11_again_b40 1000 x1 0 q1.2
      else
        some (0, q1.2)
    else none
theorem t_X11_again_b40 {S : jS} (hS : jMok S) {d : Nat} {Q : Option Value → jx_H → Prop} {rd : Value} : ∀ (n : Nat) {x1 : Int32} {x2 : Int32} {σ : jT}, jw (f_X11_again_b40 n x1 x2 σ) (fun q => Q (some (.int q.1)) (jh (jSrd S rd) q.2)) → jx_Ex (d + 1) jm_l306 jm_b306_40 [.ref 65, .int x1, .int x2] [] (jh (jSrd S rd) σ) Q := by
  intro n
  induction n with
  | zero => intro x1 x2 σ h; exact jw_none h
  | succ n ih =>
    intro x1 x2 σ h
    rw [f_X11_again_b40] at h
    refine xo_0 rfl ?_
    refine xo_9 ?_
    refine xo_64 (t := jm_b306_69) rfl (fun hc1 => ?_) (fun hc1 => ?_)
    · replace h := jw_pos hc1 h
      refine xo_2 rfl ?_
      refine xo_49 (st' := []) rfl rfl (xm_ly (jSrd_ok hS rd) ly65) rfl (Nat.le_of_ble_eq_true rfl) ?_
      refine t_X11_capSpent hS ?_
      refine jw_mono (jw_bind h) (fun q2 h => ?_)
      show jx_Ex _ _ _ _ [] (jh (jSrd S rd) q2.2) _
      refine xo_2 rfl ?_
      refine xo_8 ?_
      refine xm_34 (i := 4189) (jSrd_ok hS rd) ly65 rfl ⟨Nat.le_of_ble_eq_true rfl, Nat.le_of_ble_eq_true rfl⟩ ?_
      refine xo_8 ?_
      replace h := jw_some h
      exact xo_70 (by decide) h
    · replace h := jw_neg hc1 h
      refine xo_2 rfl ?_
      refine xm_33 (i := 4160) (q := 66) (jSrd_ok hS rd) ly65 rfl (xm_P (jSrd_ok hS rd) (by decide)) ?_
      refine xo_0 rfl ?_
      refine xo_2 rfl ?_
      refine xm_33 (i := 4209) (q := 92) (jSrd_ok hS rd) ly65 rfl (xm_P (jSrd_ok hS rd) (by decide)) ?_
      refine xo_9 ?_
      refine xo_0 rfl ?_
      refine xo_16 ?_
      refine xo_0 rfl ?_
      refine xo_14 ?_
      obtain ⟨hi3, h⟩ := jw_chk h
      refine xm_38 (j := ((28 * x1) + x2).toNatClampNeg) (v := (σ.2 92 ((28 * x1) + x2).toNatClampNeg)) (jSrd_ok hS rd) ly92 ⟨Nat.le_of_ble_eq_true rfl, Nat.le_of_ble_eq_true rfl⟩ hi3 rfl rfl ?_
      obtain ⟨hi4, h⟩ := jw_chk h
      refine xm_41 (j := x2.toNatClampNeg) (jSrd_ok hS rd) ly66 ⟨Nat.le_of_ble_eq_true rfl, Nat.le_of_ble_eq_true rfl⟩ hi4 rfl ?_
      refine xo_13 (ls' := [.ref 65, .int x1, .int (x2 + 1)]) rfl rfl ?_
      refine xo_54 (t := jm_b306_40) rfl ?_
      exact ih h
theorem t_X11_again {S : jS} (hS : jMok S) {d : Nat} {Q : Option Value → jx_H → Prop} {rd : Value} {x1 : Int32} {σ : jT} (h : jw (f_X11_again x1 σ) (fun q => Q (some (.int q.1)) (jh (jSrd S rd) q.2))) : jx_Sp (d + 1) 306 [.ref 65, .int x1] (jh (jSrd S rd) σ) Q := by
  refine ⟨jm_i306, jm_at306, rfl, rfl, ?_⟩
  show jx_Ex _ jm_l306 jm_b306_0 [.ref 65, .int x1, .retAddr 0] [] _ _
  unfold f_X11_again at h
  refine xo_2 rfl ?_
  refine xo_8 ?_
  refine xm_34 (i := 4172) (jSrd_ok hS rd) ly65 rfl ⟨Nat.le_of_ble_eq_true rfl, Nat.le_of_ble_eq_true rfl⟩ ?_
  refine xo_0 rfl ?_
  refine xo_8 ?_
  refine xo_8 ?_
  refine xo_50 (st' := []) rfl rfl rfl (Nat.le_of_ble_eq_true rfl) ?_
  refine t_X11_in hS ?_
  refine jw_mono (jw_bind h) (fun q1 h => ?_)
  show jx_Ex _ _ _ _ [.int q1.1] (jh (jSrd S rd) q1.2) _
  refine xo_55 (t := jm_b306_36) rfl (fun hc2 => ?_) (fun hc2 => ?_)
  · replace h := jw_pos hc2 h
    refine xo_8 ?_
    replace h := jw_some h
    exact xo_70 (by decide) h
  · replace h := jw_neg hc2 h
    refine xo_2 rfl ?_
    refine xm_33 (i := 4210) (q := 93) (jSrd_ok hS rd) ly65 rfl (xm_P (jSrd_ok hS rd) (by decide)) ?_
    refine xo_0 rfl ?_
    obtain ⟨hi3, h⟩ := jw_chk h
    refine xm_39 (j := x1.toNatClampNeg) (v := (q1.2.2 93 x1.toNatClampNeg)) (jSrd_ok hS rd) (Or.inr ly93) ⟨Nat.le_of_ble_eq_true rfl, Nat.le_of_ble_eq_true rfl⟩ hi3 rfl rfl ?_
    refine xo_55 (t := jm_b306_36) rfl (fun hc4 => ?_) (fun hc4 => ?_)
    · replace h := jw_pos hc4 h
      refine xo_8 ?_
      replace h := jw_some h
      exact xo_70 (by decide) h
    · replace h := jw_neg hc4 h
      refine xo_2 rfl ?_
      refine xm_33 (i := 4211) (q := 94) (jSrd_ok hS rd) ly65 rfl (xm_P (jSrd_ok hS rd) (by decide)) ?_
      refine xo_0 rfl ?_
      refine xm_38 (j := x1.toNatClampNeg) (v := (q1.2.2 94 x1.toNatClampNeg)) (jSrd_ok hS rd) ly94 ⟨Nat.le_of_ble_eq_true rfl, Nat.le_of_ble_eq_true rfl⟩ hi3 rfl rfl ?_
      refine xo_2 rfl ?_
      refine xm_32 (i := 4208) (v := (q1.2.1 4208)) (jSrd_ok hS rd) ly65 rfl ⟨Nat.le_of_ble_eq_true rfl, Nat.le_of_ble_eq_true rfl⟩ rfl ?_
      refine xo_61 (t := jm_b306_38) rfl (fun hc5 => ?_) (fun hc5 => ?_)
      · replace h := jw_pos hc5 h
        refine xo_8 ?_
        refine xo_4 (ls' := [.ref 65, .int x1, .int 0]) rfl ?_
        exact t_X11_again_b40 hS 1000 h
      · replace h := jw_neg hc5 h
        refine xo_8 ?_
        replace h := jw_some h
        exact xo_70 (by decide) h
/-- OfDifferentMindsModel.count, at ['m', 'int'] K -/
def f_X11_count_b141 (k112 : Int32 → Int32 → jT → Option (Int32 × jT)) (x3 : Int32) (s0 : Int32) (s1 : Int32) (σ : jT) : Option (Int32 × jT) :=
  k112 (s1 ||| s0) (x3 + 1) σ
def f_X11_count_b112 : Nat → Int32 → Int32 → jT → Option (Int32 × jT)
  | 0, _, _, _ => none
  | n + 1, x2, x3, σ =>
    if (σ.1 4165) ≤ x3 then
      some (x2, σ)
    else
      if jx_in (16 + x3) 28 then
      if ¬ (σ.2 66 (16 + x3).toNatClampNeg) = (-1) then
        f_X11_count_b141 (f_X11_count_b112 n) x3 (1 <<< (x3 &&& 31)) x2 σ
      else
        f_X11_count_b141 (f_X11_count_b112 n) x3 0 x2 σ
      else none
def f_X11_count (x1 : Int32) (σ : jT) : Option (Int32 × jT) :=
  if x1 = 0 then
    some ((σ.1 4161), (gs σ 4172 0))
  else
  if x1 = 1 then
    some ((σ.1 4165), (gs σ 4172 0))
  else
  if x1 = 2 then
    some ((σ.2 66 0), (gs σ 4172 0))
  else
  if x1 = 3 then
    some ((σ.2 66 1), (gs σ 4172 0))
  else
  if x1 = 4 then
    some ((σ.2 66 2), (gs σ 4172 0))
  else
  if x1 = 5 then
    some ((σ.2 66 3), (gs σ 4172 0))
  else
  if x1 = 6 then
    f_X11_count_b112 1000 0 0 (gs σ 4172 0)
  else
  if x1 = 7 then
    some ((σ.1 4164), (gs σ 4172 0))
  else
  if x1 = 8 then
    some ((σ.1 4203), (gs σ 4172 0))
  else
  if x1 = 9 then
    some ((σ.1 4189), (gs σ 4172 0))
  else
  if x1 = 10 then
    some ((σ.1 4171), (gs σ 4172 0))
  else
  if x1 = 11 then
    some ((σ.1 4169), (gs σ 4172 0))
  else
  some ((-100), (gs σ 4172 0))
theorem t_X11_count_b141 {S : jS} (hS : jMok S) {d : Nat} {Q : Option Value → jx_H → Prop} {rd : Value} {k112 : Int32 → Int32 → jT → Option (Int32 × jT)} (hk112 : ∀ {x2 : Int32} {x3 : Int32} {w1 : Value} {σ : jT}, jw (k112 x2 x3 σ) (fun q => Q (some (.int q.1)) (jh (jSrd S rd) q.2)) → jx_Ex (d) jm_l307 jm_b307_112 [.ref 65, w1, .int x2, .int x3] [] (jh (jSrd S rd) σ) Q) {x3 : Int32} {s0 : Int32} {s1 : Int32} {w1 : Value} {w2 : Value} {σ : jT} (h : jw (f_X11_count_b141 k112 x3 s0 s1 σ) (fun q => Q (some (.int q.1)) (jh (jSrd S rd) q.2))) : jx_Ex (d) jm_l307 jm_b307_141 [.ref 65, w1, w2, .int x3] [.int s0, .int s1] (jh (jSrd S rd) σ) Q := by
  unfold f_X11_count_b141 at h
  refine xo_21 ?_
  refine xo_4 (ls' := [.ref 65, w1, .int (s1 ||| s0), .int x3]) rfl ?_
  refine xo_13 (ls' := [.ref 65, w1, .int (s1 ||| s0), .int (x3 + 1)]) rfl rfl ?_
  refine xo_54 (t := jm_b307_112) rfl ?_
  exact hk112 h
theorem t_X11_count_b112 {S : jS} (hS : jMok S) {d : Nat} {Q : Option Value → jx_H → Prop} {rd : Value} : ∀ (n : Nat) {x2 : Int32} {x3 : Int32} {w1 : Value} {σ : jT}, jw (f_X11_count_b112 n x2 x3 σ) (fun q => Q (some (.int q.1)) (jh (jSrd S rd) q.2)) → jx_Ex (d) jm_l307 jm_b307_112 [.ref 65, w1, .int x2, .int x3] [] (jh (jSrd S rd) σ) Q := by
  intro n
  induction n with
  | zero => intro x2 x3 w1 σ h; exact jw_none h
  | succ n ih =>
    intro x2 x3 w1 σ h
    rw [f_X11_count_b112] at h
    refine xo_0 rfl ?_
    refine xo_2 rfl ?_
    refine xm_32 (i := 4165) (v := (σ.1 4165)) (jSrd_ok hS rd) ly65 rfl ⟨Nat.le_of_ble_eq_true rfl, Nat.le_of_ble_eq_true rfl⟩ rfl ?_
    refine xo_64 (t := jm_b307_149) rfl (fun hc1 => ?_) (fun hc1 => ?_)
    · replace h := jw_pos hc1 h
      refine xo_0 rfl ?_
      replace h := jw_some h
      exact xo_69 h
    · replace h := jw_neg hc1 h
      refine xo_0 rfl ?_
      refine xo_2 rfl ?_
      refine xm_33 (i := 4160) (q := 66) (jSrd_ok hS rd) ly65 rfl (xm_P (jSrd_ok hS rd) (by decide)) ?_
      refine xo_9 ?_
      refine xo_0 rfl ?_
      refine xo_14 ?_
      obtain ⟨hi2, h⟩ := jw_chk h
      refine xm_38 (j := (16 + x3).toNatClampNeg) (v := (σ.2 66 (16 + x3).toNatClampNeg)) (jSrd_ok hS rd) ly66 ⟨Nat.le_of_ble_eq_true rfl, Nat.le_of_ble_eq_true rfl⟩ hi2 rfl rfl ?_
      refine xo_8 ?_
      refine xo_62 (t := jm_b307_138) rfl (fun hc3 => ?_) (fun hc3 => ?_)
      · replace h := jw_pos hc3 h
        refine xo_8 ?_
        refine xo_0 rfl ?_
        refine xo_23 ?_
        exact t_X11_count_b141 hS ih h
      · replace h := jw_neg hc3 h
        refine xo_8 ?_
        refine xo_54 (t := jm_b307_141) rfl ?_
        exact t_X11_count_b141 hS ih h
theorem t_X11_count {S : jS} (hS : jMok S) {d : Nat} {Q : Option Value → jx_H → Prop} {rd : Value} {x1 : Int32} {σ : jT} (h : jw (f_X11_count x1 σ) (fun q => Q (some (.int q.1)) (jh (jSrd S rd) q.2))) : jx_Sp (d) 307 [.ref 65, .int x1] (jh (jSrd S rd) σ) Q := by
  refine ⟨jm_i307, jm_at307, rfl, rfl, ?_⟩
  show jx_Ex _ jm_l307 jm_b307_0 [.ref 65, .int x1, .retAddr 0, .retAddr 0] [] _ _
  unfold f_X11_count at h
  refine xo_2 rfl ?_
  refine xo_8 ?_
  refine xm_34 (i := 4172) (jSrd_ok hS rd) ly65 rfl ⟨Nat.le_of_ble_eq_true rfl, Nat.le_of_ble_eq_true rfl⟩ ?_
  refine xo_8 ?_
  refine xo_4 (ls' := [.ref 65, .int x1, .int 0, .retAddr 0]) rfl ?_
  refine xo_0 rfl ?_
  refine xo_67 ?_
  refine xo_swc (tb := jm_b307_72) rfl (fun hc1 => ?_) (fun hc1 => ?_)
  · replace h := jw_pos hc1 h
    refine xo_2 rfl ?_
    refine xm_32 (i := 4161) (v := (σ.1 4161)) (jSrd_ok hS rd) ly65 rfl ⟨Nat.le_of_ble_eq_true rfl, Nat.le_of_ble_eq_true rfl⟩ rfl ?_
    replace h := jw_some h
    exact xo_69 h
  replace h := jw_neg hc1 h
  refine xo_swc (tb := jm_b307_77) rfl (fun hc2 => ?_) (fun hc2 => ?_)
  · replace h := jw_pos hc2 h
    refine xo_2 rfl ?_
    refine xm_32 (i := 4165) (v := (σ.1 4165)) (jSrd_ok hS rd) ly65 rfl ⟨Nat.le_of_ble_eq_true rfl, Nat.le_of_ble_eq_true rfl⟩ rfl ?_
    replace h := jw_some h
    exact xo_69 h
  replace h := jw_neg hc2 h
  refine xo_swc (tb := jm_b307_82) rfl (fun hc3 => ?_) (fun hc3 => ?_)
  · replace h := jw_pos hc3 h
    refine xo_2 rfl ?_
    refine xm_33 (i := 4160) (q := 66) (jSrd_ok hS rd) ly65 rfl (xm_P (jSrd_ok hS rd) (by decide)) ?_
    refine xo_8 ?_
    refine xm_38 (j := 0) (v := (σ.2 66 0)) (jSrd_ok hS rd) ly66 ⟨Nat.le_of_ble_eq_true rfl, Nat.le_of_ble_eq_true rfl⟩ (by decide) (by decide) rfl ?_
    replace h := jw_some h
    exact xo_69 h
  replace h := jw_neg hc3 h
  refine xo_swc (tb := jm_b307_89) rfl (fun hc4 => ?_) (fun hc4 => ?_)
  · replace h := jw_pos hc4 h
    refine xo_2 rfl ?_
    refine xm_33 (i := 4160) (q := 66) (jSrd_ok hS rd) ly65 rfl (xm_P (jSrd_ok hS rd) (by decide)) ?_
    refine xo_8 ?_
    refine xm_38 (j := 1) (v := (σ.2 66 1)) (jSrd_ok hS rd) ly66 ⟨Nat.le_of_ble_eq_true rfl, Nat.le_of_ble_eq_true rfl⟩ (by decide) (by decide) rfl ?_
    replace h := jw_some h
    exact xo_69 h
  replace h := jw_neg hc4 h
  refine xo_swc (tb := jm_b307_96) rfl (fun hc5 => ?_) (fun hc5 => ?_)
  · replace h := jw_pos hc5 h
    refine xo_2 rfl ?_
    refine xm_33 (i := 4160) (q := 66) (jSrd_ok hS rd) ly65 rfl (xm_P (jSrd_ok hS rd) (by decide)) ?_
    refine xo_8 ?_
    refine xm_38 (j := 2) (v := (σ.2 66 2)) (jSrd_ok hS rd) ly66 ⟨Nat.le_of_ble_eq_true rfl, Nat.le_of_ble_eq_true rfl⟩ (by decide) (by decide) rfl ?_
    replace h := jw_some h
    exact xo_69 h
  replace h := jw_neg hc5 h
  refine xo_swc (tb := jm_b307_103) rfl (fun hc6 => ?_) (fun hc6 => ?_)
  · replace h := jw_pos hc6 h
    refine xo_2 rfl ?_
    refine xm_33 (i := 4160) (q := 66) (jSrd_ok hS rd) ly65 rfl (xm_P (jSrd_ok hS rd) (by decide)) ?_
    refine xo_8 ?_
    refine xm_38 (j := 3) (v := (σ.2 66 3)) (jSrd_ok hS rd) ly66 ⟨Nat.le_of_ble_eq_true rfl, Nat.le_of_ble_eq_true rfl⟩ (by decide) (by decide) rfl ?_
    replace h := jw_some h
    exact xo_69 h
  replace h := jw_neg hc6 h
  refine xo_swc (tb := jm_b307_110) rfl (fun hc7 => ?_) (fun hc7 => ?_)
  · replace h := jw_pos hc7 h
    refine xo_8 ?_
    refine xo_4 (ls' := [.ref 65, .int x1, .int 0, .int 0]) rfl ?_
    exact t_X11_count_b112 hS 1000 h
  replace h := jw_neg hc7 h
  refine xo_swc (tb := jm_b307_151) rfl (fun hc8 => ?_) (fun hc8 => ?_)
  · replace h := jw_pos hc8 h
    refine xo_2 rfl ?_
    refine xm_32 (i := 4164) (v := (σ.1 4164)) (jSrd_ok hS rd) ly65 rfl ⟨Nat.le_of_ble_eq_true rfl, Nat.le_of_ble_eq_true rfl⟩ rfl ?_
    replace h := jw_some h
    exact xo_69 h
  replace h := jw_neg hc8 h
  refine xo_swc (tb := jm_b307_156) rfl (fun hc9 => ?_) (fun hc9 => ?_)
  · replace h := jw_pos hc9 h
    refine xo_2 rfl ?_
    refine xm_32 (i := 4203) (v := (σ.1 4203)) (jSrd_ok hS rd) ly65 rfl ⟨Nat.le_of_ble_eq_true rfl, Nat.le_of_ble_eq_true rfl⟩ rfl ?_
    replace h := jw_some h
    exact xo_69 h
  replace h := jw_neg hc9 h
  refine xo_swc (tb := jm_b307_161) rfl (fun hc10 => ?_) (fun hc10 => ?_)
  · replace h := jw_pos hc10 h
    refine xo_2 rfl ?_
    refine xm_32 (i := 4189) (v := (σ.1 4189)) (jSrd_ok hS rd) ly65 rfl ⟨Nat.le_of_ble_eq_true rfl, Nat.le_of_ble_eq_true rfl⟩ rfl ?_
    replace h := jw_some h
    exact xo_69 h
  replace h := jw_neg hc10 h
  refine xo_swc (tb := jm_b307_166) rfl (fun hc11 => ?_) (fun hc11 => ?_)
  · replace h := jw_pos hc11 h
    refine xo_2 rfl ?_
    refine xm_32 (i := 4171) (v := (σ.1 4171)) (jSrd_ok hS rd) ly65 rfl ⟨Nat.le_of_ble_eq_true rfl, Nat.le_of_ble_eq_true rfl⟩ rfl ?_
    replace h := jw_some h
    exact xo_69 h
  replace h := jw_neg hc11 h
  refine xo_swc (tb := jm_b307_171) rfl (fun hc12 => ?_) (fun hc12 => ?_)
  · replace h := jw_pos hc12 h
    refine xo_2 rfl ?_
    refine xm_32 (i := 4169) (v := (σ.1 4169)) (jSrd_ok hS rd) ly65 rfl ⟨Nat.le_of_ble_eq_true rfl, Nat.le_of_ble_eq_true rfl⟩ rfl ?_
    replace h := jw_some h
    exact xo_69 h
  replace h := jw_neg hc12 h
  refine xo_swn (tb := jm_b307_176) rfl ?_
  refine xo_9 ?_
  replace h := jw_some h
  exact xo_69 h
/-- OfDifferentMindsModel.row, at ['m', 'int'] K -/
def f_X11_row (x1 : Int32) (σ : jT) : Option (Int32 × jT) :=
  (f_X11_in x1 0 ((σ.1 4171) - 1) (gs σ 4172 0)).bind fun q1 =>
  if q1.1 = 0 then
    (f_X11_lost q1.2).bind fun q3 =>
    some (q3.1, q3.2)
  else
    if jx_in x1 40 then
    some ((q1.2.2 72 x1.toNatClampNeg), q1.2)
    else none
theorem t_X11_row {S : jS} (hS : jMok S) {d : Nat} {Q : Option Value → jx_H → Prop} {rd : Value} {x1 : Int32} {σ : jT} (h : jw (f_X11_row x1 σ) (fun q => Q (some (.int q.1)) (jh (jSrd S rd) q.2))) : jx_Sp (d + 1) 308 [.ref 65, .int x1] (jh (jSrd S rd) σ) Q := by
  refine ⟨jm_i308, jm_at308, rfl, rfl, ?_⟩
  show jx_Ex _ jm_l308 jm_b308_0 [.ref 65, .int x1] [] _ _
  unfold f_X11_row at h
  refine xo_2 rfl ?_
  refine xo_8 ?_
  refine xm_34 (i := 4172) (jSrd_ok hS rd) ly65 rfl ⟨Nat.le_of_ble_eq_true rfl, Nat.le_of_ble_eq_true rfl⟩ ?_
  refine xo_0 rfl ?_
  refine xo_8 ?_
  refine xo_2 rfl ?_
  refine xm_32 (i := 4171) (v := (σ.1 4171)) (jSrd_ok hS rd) ly65 rfl ⟨Nat.le_of_ble_eq_true rfl, Nat.le_of_ble_eq_true rfl⟩ rfl ?_
  refine xo_8 ?_
  refine xo_15 ?_
  refine xo_50 (st' := []) rfl rfl rfl (Nat.le_of_ble_eq_true rfl) ?_
  refine t_X11_in hS ?_
  refine jw_mono (jw_bind h) (fun q1 h => ?_)
  show jx_Ex _ _ _ _ [.int q1.1] (jh (jSrd S rd) q1.2) _
  refine xo_55 (t := jm_b308_28) rfl (fun hc2 => ?_) (fun hc2 => ?_)
  · replace h := jw_pos hc2 h
    refine xo_2 rfl ?_
    refine xo_49 (st' := []) rfl rfl (xm_ly (jSrd_ok hS rd) ly65) rfl (Nat.le_of_ble_eq_true rfl) ?_
    refine t_X11_lost hS ?_
    refine jw_mono (jw_bind h) (fun q3 h => ?_)
    show jx_Ex _ _ _ _ [.int q3.1] (jh (jSrd S rd) q3.2) _
    replace h := jw_some h
    exact xo_69 h
  · replace h := jw_neg hc2 h
    refine xo_2 rfl ?_
    refine xm_33 (i := 4170) (q := 72) (jSrd_ok hS rd) ly65 rfl (xm_P (jSrd_ok hS rd) (by decide)) ?_
    refine xo_0 rfl ?_
    obtain ⟨hi4, h⟩ := jw_chk h
    refine xm_38 (j := x1.toNatClampNeg) (v := (q1.2.2 72 x1.toNatClampNeg)) (jSrd_ok hS rd) ly72 ⟨Nat.le_of_ble_eq_true rfl, Nat.le_of_ble_eq_true rfl⟩ hi4 rfl rfl ?_
    refine xo_54 (t := jm_b308_32) rfl ?_
    replace h := jw_some h
    exact xo_69 h
