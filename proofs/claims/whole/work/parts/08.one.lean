/-! ===== a text of entries stands for a method's bytes ===== -/
def jx_side (own nL rt kd : Nat) (e : jx_E) : Bool :=
  match e with
  | (_, op, (a, b, c0, d), x, L) =>
  match op with
  | 0 => decide (a < 4)
  | 2 => decide (a < 4)
  | 4 => decide (a < 4) && decide (a < nL)
  | 5 => decide (a < nL)
  | 6 => decide (a < 4) && decide (a < nL)
  | 7 => decide (a < nL)
  | 9 => decide ((Int8.ofInt x.toInt).toInt32 = x)
  | 10 => decide ((Int16.ofInt x.toInt).toInt32 = x)
  | 11 => jx_CL.any (fun q => decide (q.1 = own ∧ q.2.1 = d ∧ q.2.2.1 = x))
  | 12 => jx_CL.any (fun q => decide (q.1 = own ∧ q.2.1 = d ∧ q.2.2.1 = x))
  | 32 => decide (a < 12 ∧ b < jx_N a) && !jx_isr a b && jx_FL.any (fun q => decide (q.1 = own ∧ q.2.1 = d ∧ q.2.2.1 = a ∧ q.2.2.2.1 = b))
  | 33 => decide (a < 12 ∧ b < jx_N a) && jx_isr a b && jx_FL.any (fun q => decide (q.1 = own ∧ q.2.1 = d ∧ q.2.2.1 = a ∧ q.2.2.2.1 = b))
  | 34 => decide (a < 12 ∧ b < jx_N a ∧ jx_ty a b = .int ∧ ((jx_cl.getD a ("", jx_T0, 0)).2.1 b).2.2.2 = false) && jx_FL.any (fun q => decide (q.1 = own ∧ q.2.1 = d ∧ q.2.2.1 = a ∧ q.2.2.2.1 = b))
  | 35 => decide (a < 12 ∧ b < jx_N a ∧ jx_ty a b = .boolean ∧ ((jx_cl.getD a ("", jx_T0, 0)).2.1 b).2.2.2 = false) && jx_FL.any (fun q => decide (q.1 = own ∧ q.2.1 = d ∧ q.2.2.1 = a ∧ q.2.2.2.1 = b))
  | 36 => decide (a < 12 ∧ b < jx_N a ∧ ((jx_cl.getD a ("", jx_T0, 0)).2.1 b).2.2.2 = false) && jx_isr a b && jx_FL.any (fun q => decide (q.1 = own ∧ q.2.1 = d ∧ q.2.2.1 = a ∧ q.2.2.2.1 = b))
  | 37 => decide (a < 12 ∧ b < jx_N a ∧ ((jx_cl.getD a ("", jx_T0, 0)).2.1 b).2.2.2 = true ∧ kd = 1 ∧ own = a) && jx_isr a b && jx_FL.any (fun q => decide (q.1 = own ∧ q.2.1 = d ∧ q.2.2.1 = a ∧ q.2.2.2.1 = b))
  | 46 => decide (a < 3)
  | 47 => jx_KL.any (fun q => decide (q.1 = own ∧ q.2.1 = d ∧ q.2.2.1 = 8))
  | 48 => decide (a < 12 ∧ a ≠ 1) && jx_KL.any (fun q => decide (q.1 = own ∧ q.2.1 = d ∧ q.2.2.1 = a))
  | 49 => jx_ML.any (fun q => decide (q.1 = own ∧ q.2.1 = d ∧ q.2.2.1 = a)) && decide (jx_kc[a]? = some (0, c0))
  | 50 => jx_ML.any (fun q => decide (q.1 = own ∧ q.2.1 = d ∧ q.2.2.1 = a)) && decide ((jx_kc[a]?).map (fun q => q.1) = some 2)
  | 51 => jx_ML.any (fun q => decide (q.1 = own ∧ q.2.1 = d ∧ q.2.2.1 = a)) && decide ((jx_kc[a]?).map (fun q => q.1) = some 1)
  | 52 => jx_OL.any (fun q => decide (q.1 = own ∧ q.2.1 = d))
  | 53 => jx_AL.any (fun q => decide (q.1 = own ∧ q.2.1 = d))
  | 67 => (L.zipIdx).all (fun q => decide (q.1.1.toInt = x.toInt + q.2))
  | 68 => ((L.map fun q => (q.1.toInt, (q.2 : Int) - e.1)).zip ((L.map fun q => (q.1.toInt, (q.2 : Int) - e.1)).drop 1)).all (fun (a, next) => a.1 < next.1)
  | 69 => decide (rt = 1)
  | 70 => decide (rt = 2)
  | 71 => decide (rt = 0)
  | 72 => jx_ML.any (fun q => decide (q.1 = own ∧ q.2.1 = d ∧ q.2.2.1 = a)) && decide (jx_ys.getD a ⟨"", "", ""⟩ = Lib.Math.max.name)
  | 73 => jx_ML.any (fun q => decide (q.1 = own ∧ q.2.1 = d ∧ q.2.2.1 = a)) && decide (jx_ys.getD a ⟨"", "", ""⟩ = Lib.Math.min.name)
  | _ => true
def jx_okE (cc : ByteArray) (own nL rt kd : Nat) (e : jx_E) : Bool := decide (decode cc e.1 = .ok (jx_ins e)) && jx_side own nL rt kd e
def jx_okR (cc : ByteArray) (own nL rt kd : Nat) : Nat → List jx_E → Bool
  | _, [] => true
  | pc, e :: r => decide (e.1 = pc) && jx_okE cc own nL rt kd e && jx_okR cc own nL rt kd (pc + (jx_ins e).2) r
def jx_sz (L : List (Nat × Nat)) : Nat := (L.map (fun q => q.2)).sum
theorem jx_nil {α : Type} {a x : List α} (h : a = a ++ x) : x = [] := by
  have := congrArg List.length h
  rw [List.length_append] at this
  exact List.length_eq_zero_iff.mp (by omega)
theorem jx_app {α : Type} {a x y : List α} (h : a ++ y = a ++ x) : x = y := (List.append_cancel_left h).symm
theorem jx_at_ok {cc : ByteArray} {own nL rt kd : Nat} : ∀ {bl : jx_B}, (∀ b ∈ bl, jx_okR cc own nL rt kd b.1 b.2 = true) → ∀ t, jx_okR cc own nL rt kd t (jx_at bl t) = true
  | [], _, _ => rfl
  | b :: r, h, t => by
    unfold jx_at
    by_cases hb : b.1 = t
    · rw [if_pos hb, ← hb]
      exact h b List.mem_cons_self
    · rw [if_neg hb]
      exact jx_at_ok (fun q hq => h q (List.mem_cons_of_mem _ hq)) t
theorem jx_fl_in {own d a b : Nat} (h : jx_FL.any (fun q => decide (q.1 = own ∧ q.2.1 = d ∧ q.2.2.1 = a ∧ q.2.2.2.1 = b)) = true) : Cond.fieldLink (jx_nm own) d (jx_nm a) ((jx_cl.getD a ("", jx_T0, 0)).2.1 b).2.1 ((jx_cl.getD a ("", jx_T0, 0)).2.1 b).2.2.1 ∈ lw_g := by
  obtain ⟨q, hq, h1⟩ := List.any_eq_true.mp h
  obtain ⟨rfl, rfl, rfl, rfl⟩ := of_decide_eq_true h1
  exact jx_FL_ok q hq
theorem jx_ml_in {own d a : Nat} (h : jx_ML.any (fun q => decide (q.1 = own ∧ q.2.1 = d ∧ q.2.2.1 = a)) = true) : Cond.methodLink (jx_nm own) d (jx_ys.getD a ⟨"", "", ""⟩) ∈ lw_g := by
  obtain ⟨q, hq, h1⟩ := List.any_eq_true.mp h
  obtain ⟨rfl, rfl, rfl⟩ := of_decide_eq_true h1
  exact jx_ML_ok q hq
theorem jx_kl_in {own d a : Nat} (h : jx_KL.any (fun q => decide (q.1 = own ∧ q.2.1 = d ∧ q.2.2.1 = a)) = true) : Cond.classLink (jx_nm own) d (jx_nm a) ∈ lw_g := by
  obtain ⟨q, hq, h1⟩ := List.any_eq_true.mp h
  obtain ⟨rfl, rfl, rfl⟩ := of_decide_eq_true h1
  exact jx_KL_ok q hq
theorem jx_cl_in {own d : Nat} {x : Int32} (h : jx_CL.any (fun q => decide (q.1 = own ∧ q.2.1 = d ∧ q.2.2.1 = x)) = true) : Cond.constant (jx_nm own) d x ∈ lw_g := by
  obtain ⟨q, hq, h1⟩ := List.any_eq_true.mp h
  obtain ⟨rfl, rfl, rfl⟩ := of_decide_eq_true h1
  exact jx_CL_ok q hq
theorem jx_ol_in {own d : Nat} (h : jx_OL.any (fun q => decide (q.1 = own ∧ q.2.1 = d)) = true) : Cond.methodLink (jx_nm own) d Lib.objectInit ∈ lw_g := by
  obtain ⟨q, hq, h1⟩ := List.any_eq_true.mp h
  obtain ⟨rfl, rfl⟩ := of_decide_eq_true h1
  exact jx_OL_ok q hq
theorem jx_al_in {own d : Nat} (h : jx_AL.any (fun q => decide (q.1 = own ∧ q.2.1 = d)) = true) : Cond.methodLink (jx_nm own) d arraycopyName ∈ lw_g := by
  obtain ⟨q, hq, h1⟩ := List.any_eq_true.mp h
  obtain ⟨rfl, rfl⟩ := of_decide_eq_true h1
  exact jx_AL_ok q hq
theorem jx_ref_ok {c k : Nat} (h : jx_isr c k = true) (hc : c < 12) (hk : k < jx_N c) (a : Nat) : narrow (jx_ty c k) (.ref a) = .ref a ∧ fits (jx_ty c k) (.ref a) = true := by
  have key : ∀ c, c < 12 → ∀ k, k < 64 → jx_isr c k = true → (match jx_ty c k with | .object _ => true | .array _ => true | _ => false) = true := by decide +kernel
  obtain ⟨T, hT⟩ := jx_cls hc
  have hN : jx_N c ≤ 64 := (jx_cl_ok c _ hT).2.1
  have h1 := key c hc k (by omega) h
  cases ht : jx_ty c k <;> rw [ht] at h1 <;> simp at h1 <;> exact ⟨rfl, rfl⟩
section JXQ
variable {p : Program} {l : Launch} {e : Env} {R : Room} {s : State} {m : MethodId} {args : Array Value} {below : List Frame} {meth : Method} {c : Code} {base : Nat} {D : va_G} {cA : Nat → ClassId} {O : Nat → va_E} {cc : ByteArray} {nL own rt kd : Nat} {Q : State → Prop} {cells slots pc : Nat} {ls st : List Value} {h : jx_H}
set_option maxHeartbeats 4000000 in
theorem jx_one (C : jx_Cx p s m args meth c base D cA cc nL own) {bl : jx_B} {e0 : jx_E} {r r' : List jx_E} {ls' st' : List Value} {h1 : jx_H} (hs : jx_s bl e0 r ls st h = some (.inl (r', ls', st', h1))) (hok : jx_okR cc own nL rt kd pc (e0 :: r) = true) (hbl : ∀ b ∈ bl, jx_okR cc own nL rt kd b.1 b.2 = true)
    (hin : kd = 1 → meth.name = "<init>") (hfr : 1 ≤ R.frames) (hlo : 64 ≤ R.locals) (x0 : List (Nat × Nat)) (hG : x0 ≠ [] → jx_G O = 0) (hx : h1.1 = h.1 ++ x0) (hcl : cells + x0.length ≤ R.cells) (hsl : slots + jx_sz x0 ≤ R.slots)
    (kk : ∀ pc', jx_okR cc own nL rt kd pc' r' = true → jx_Go p l e R s m args below meth c base D cA O nL Q (cells + x0.length) (slots + jx_sz x0) pc' ls' st' h1) : jx_Go p l e R s m args below meth c base D cA O nL Q cells slots pc ls st h := by
  simp only [jx_okR, jx_okE, Bool.and_eq_true, decide_eq_true_eq] at hok
  obtain ⟨⟨hpc, hd, hsd⟩, hr⟩ := hok
  have hat := jx_at_ok hbl
  obtain ⟨pc0, op, ⟨a, b, c0, d⟩, x, L⟩ := e0
  simp only at hpc
  subst hpc
  match op, hs, hd, hsd, hr with
  | 0, hs, hd, hsd, hr =>
    simp only [jx_s, jx_n] at hs
    split at hs
    · rename_i v hv
      cases hs; obtain rfl := jx_nil hx
      exact jx_iload_n C (by simpa [jx_side] using hsd) hd hv (kk _ hr)
    · cases hs
  | 1, hs, hd, hsd, hr =>
    simp only [jx_s, jx_n] at hs
    split at hs
    · rename_i v hv
      cases hs; obtain rfl := jx_nil hx
      exact jx_iload C hd hv (kk _ hr)
    · cases hs
  | 2, hs, hd, hsd, hr =>
    simp only [jx_s, jx_n] at hs
    split at hs
    · rename_i v hv
      cases hs; obtain rfl := jx_nil hx
      exact jx_aload_n C (by simpa [jx_side] using hsd) hd hv (kk _ hr)
    · cases hs
  | 3, hs, hd, hsd, hr =>
    simp only [jx_s, jx_n] at hs
    split at hs
    · rename_i v hv
      cases hs; obtain rfl := jx_nil hx
      exact jx_aload C hd hv (kk _ hr)
    · cases hs
  | 4, hs, hd, hsd, hr =>
    simp only [jx_s, jx_n] at hs
    split at hs
    · cases hs; obtain rfl := jx_nil hx
      exact jx_istore_n C (by simp [jx_side] at hsd; exact hsd.1) hd (by simp [jx_side] at hsd; exact hsd.2) (kk _ hr)
    · cases hs
  | 5, hs, hd, hsd, hr =>
    simp only [jx_s, jx_n] at hs
    split at hs
    · cases hs; obtain rfl := jx_nil hx
      exact jx_istore C hd (by simpa [jx_side] using hsd) (kk _ hr)
    · cases hs
  | 6, hs, hd, hsd, hr =>
    simp only [jx_s, jx_n] at hs
    split at hs
    · cases hs; obtain rfl := jx_nil hx
      exact jx_astore_n C (by simp [jx_side] at hsd; exact hsd.1) hd (by simp [jx_side] at hsd; exact hsd.2) (kk _ hr)
    · cases hs
  | 7, hs, hd, hsd, hr =>
    simp only [jx_s, jx_n] at hs
    split at hs
    · cases hs; obtain rfl := jx_nil hx
      exact jx_astore C hd (by simpa [jx_side] using hsd) (kk _ hr)
    · cases hs
  | 8, hs, hd, hsd, hr =>
    simp only [jx_s, jx_n] at hs
    cases hs
    obtain rfl := jx_nil hx
    exact jx_iconst C hd (kk _ hr)
  | 9, hs, hd, hsd, hr =>
    simp only [jx_s, jx_n] at hs
    cases hs
    obtain rfl := jx_nil hx
    exact jx_bipush C (by simpa [jx_side] using hsd) hd (kk _ hr)
  | 10, hs, hd, hsd, hr =>
    simp only [jx_s, jx_n] at hs
    cases hs
    obtain rfl := jx_nil hx
    exact jx_sipush C (by simpa [jx_side] using hsd) hd (kk _ hr)
  | 11, hs, hd, hsd, hr =>
    simp only [jx_s, jx_n] at hs
    cases hs
    obtain rfl := jx_nil hx
    exact jx_ldc C (jx_cl_in hsd) hd (kk _ hr)
  | 12, hs, hd, hsd, hr =>
    simp only [jx_s, jx_n] at hs
    cases hs
    obtain rfl := jx_nil hx
    exact jx_ldc_w C (jx_cl_in hsd) hd (kk _ hr)
  | 13, hs, hd, hsd, hr =>
    simp only [jx_s, jx_n] at hs
    split at hs
    · rename_i v hv
      cases hs; obtain rfl := jx_nil hx
      exact jx_iinc C hd hv (kk _ hr)
    · cases hs
  | 14, hs, hd, hsd, hr =>
    simp only [jx_s, jx_n] at hs
    split at hs
    · cases hs; obtain rfl := jx_nil hx
      exact jx_iadd C hd (kk _ hr)
    · cases hs
  | 15, hs, hd, hsd, hr =>
    simp only [jx_s, jx_n] at hs
    split at hs
    · cases hs; obtain rfl := jx_nil hx
      exact jx_isub C hd (kk _ hr)
    · cases hs
  | 16, hs, hd, hsd, hr =>
    simp only [jx_s, jx_n] at hs
    split at hs
    · cases hs; obtain rfl := jx_nil hx
      exact jx_imul C hd (kk _ hr)
    · cases hs
  | 20, hs, hd, hsd, hr =>
    simp only [jx_s, jx_n] at hs
    split at hs
    · cases hs; obtain rfl := jx_nil hx
      exact jx_iand C hd (kk _ hr)
    · cases hs
  | 21, hs, hd, hsd, hr =>
    simp only [jx_s, jx_n] at hs
    split at hs
    · cases hs; obtain rfl := jx_nil hx
      exact jx_ior C hd (kk _ hr)
    · cases hs
  | 22, hs, hd, hsd, hr =>
    simp only [jx_s, jx_n] at hs
    split at hs
    · cases hs; obtain rfl := jx_nil hx
      exact jx_ixor C hd (kk _ hr)
    · cases hs
  | 23, hs, hd, hsd, hr =>
    simp only [jx_s, jx_n] at hs
    split at hs
    · cases hs; obtain rfl := jx_nil hx
      exact jx_ishl C hd (kk _ hr)
    · cases hs
  | 24, hs, hd, hsd, hr =>
    simp only [jx_s, jx_n] at hs
    split at hs
    · cases hs; obtain rfl := jx_nil hx
      exact jx_ishr C hd (kk _ hr)
    · cases hs
  | 25, hs, hd, hsd, hr =>
    simp only [jx_s, jx_n] at hs
    split at hs
    · cases hs; obtain rfl := jx_nil hx
      exact jx_iushr C hd (kk _ hr)
    · cases hs
  | 19, hs, hd, hsd, hr =>
    simp only [jx_s, jx_n] at hs
    split at hs
    · cases hs; obtain rfl := jx_nil hx
      exact jx_ineg C hd (kk _ hr)
    · cases hs
  | 26, hs, hd, hsd, hr =>
    simp only [jx_s, jx_n] at hs
    split at hs
    · cases hs; obtain rfl := jx_nil hx
      exact jx_i2b C hd (kk _ hr)
    · cases hs
  | 27, hs, hd, hsd, hr =>
    simp only [jx_s, jx_n] at hs
    split at hs
    · cases hs; obtain rfl := jx_nil hx
      exact jx_i2s C hd (kk _ hr)
    · cases hs
  | 17, hs, hd, hsd, hr =>
    simp only [jx_s, jx_n] at hs
    split at hs
    · split at hs
      · cases hs
      · rename_i hy
        cases hs; obtain rfl := jx_nil hx
        exact jx_idiv C hy hd (kk _ hr)
    · cases hs
  | 18, hs, hd, hsd, hr =>
    simp only [jx_s, jx_n] at hs
    split at hs
    · split at hs
      · cases hs
      · rename_i hy
        cases hs; obtain rfl := jx_nil hx
        exact jx_irem C hy hd (kk _ hr)
    · cases hs
  | 28, hs, hd, hsd, hr =>
    simp only [jx_s, jx_n] at hs
    split at hs
    · cases hs; obtain rfl := jx_nil hx
      exact jx_dup C rfl hd (kk _ hr)
    · cases hs; obtain rfl := jx_nil hx
      exact jx_dup C rfl hd (kk _ hr)
    · cases hs
  | 29, hs, hd, hsd, hr =>
    simp only [jx_s, jx_n] at hs
    split at hs
    · cases hs; obtain rfl := jx_nil hx
      exact jx_dup2 C rfl rfl hd (kk _ hr)
    · cases hs
  | 30, hs, hd, hsd, hr =>
    simp only [jx_s, jx_n] at hs
    split at hs
    · cases hs; obtain rfl := jx_nil hx
      exact jx_dup_x1 C rfl rfl hd (kk _ hr)
    · cases hs
  | 31, hs, hd, hsd, hr =>
    simp only [jx_s, jx_n] at hs
    split at hs
    · cases hs; obtain rfl := jx_nil hx
      exact jx_pop C rfl hd (kk _ hr)
    · cases hs
  | 32, hs, hd, hsd, hr =>
    simp only [jx_s, jx_n] at hs
    simp only [jx_side, Bool.and_eq_true, decide_eq_true_eq, Bool.not_eq_true'] at hsd
    obtain ⟨⟨⟨ha, hb⟩, hi⟩, hf⟩ := hsd
    split at hs
    · split at hs
      · rename_i ho
        cases hs; obtain rfl := jx_nil hx
        have hb64 : b < 64 := by
          obtain ⟨T, hT⟩ := jx_cls ha
          exact Nat.lt_of_lt_of_le hb (jx_cl_ok a _ hT).2.1
        exact jx_get C ha hb ho (jx_fl_in hf) hd (by simp [jx_f, hb64, hi, jx_V]) (kk _ hr)
      · cases hs
    · cases hs
  | 33, hs, hd, hsd, hr =>
    simp only [jx_s, jx_n] at hs
    simp only [jx_side, Bool.and_eq_true, decide_eq_true_eq, Bool.not_eq_true'] at hsd
    obtain ⟨⟨⟨ha, hb⟩, hi⟩, hf⟩ := hsd
    split at hs
    · split at hs
      · rename_i ho
        cases hs; obtain rfl := jx_nil hx
        have hb64 : b < 64 := by
          obtain ⟨T, hT⟩ := jx_cls ha
          exact Nat.lt_of_lt_of_le hb (jx_cl_ok a _ hT).2.1
        exact jx_get C ha hb ho (jx_fl_in hf) hd (by simp [jx_f, hb64, hi, jx_V]) (kk _ hr)
      · cases hs
    · cases hs
  | 34, hs, hd, hsd, hr =>
    simp only [jx_s, jx_n] at hs
    simp only [jx_side, Bool.and_eq_true, decide_eq_true_eq] at hsd
    obtain ⟨⟨ha, hb, hty, hfi⟩, hf⟩ := hsd
    split at hs
    · split at hs
      · rename_i ho
        cases hs; obtain rfl := jx_nil hx
        have hb64 : b < 64 := by
          obtain ⟨T, hT⟩ := jx_cls ha
          exact Nat.lt_of_lt_of_le hb (jx_cl_ok a _ hT).2.1
        have hi : jx_isr a b = false := by simp [jx_isr, hty]
        have k2 := kk _ hr
        refine jx_put C ha hb ho (jx_fl_in hf) hd (Or.inl hfi) ?_ ?_ ?_ ?_ ?_ ?_ k2
        · rw [hty]; rfl
        · rw [hty]; rfl
        · rfl
        · rfl
        · exact fun q hq => ⟨rfl, by simp [jx_up, hq]⟩
        · simp [jx_f, hb64, hi, jx_V, jx_up]
      · cases hs
    · cases hs
  | 35, hs, hd, hsd, hr =>
    simp only [jx_s, jx_n] at hs
    simp only [jx_side, Bool.and_eq_true, decide_eq_true_eq] at hsd
    obtain ⟨⟨ha, hb, hty, hfi⟩, hf⟩ := hsd
    split at hs
    · split at hs
      · rename_i hov
        obtain ⟨ho, hv01⟩ := hov
        cases hs; obtain rfl := jx_nil hx
        have hb64 : b < 64 := by
          obtain ⟨T, hT⟩ := jx_cls ha
          exact Nat.lt_of_lt_of_le hb (jx_cl_ok a _ hT).2.1
        have hi : jx_isr a b = false := by simp [jx_isr, hty]
        have k2 := kk _ hr
        refine jx_put C ha hb ho (jx_fl_in hf) hd (Or.inl hfi) ?_ ?_ ?_ ?_ ?_ ?_ k2
        · rw [hty]; rcases hv01 with rfl | rfl <;> rfl
        · rw [hty]; rcases hv01 with rfl | rfl <;> rfl
        · rfl
        · rfl
        · exact fun q hq => ⟨rfl, by simp [jx_up, hq]⟩
        · simp [jx_f, hb64, hi, jx_V, jx_up]
      · cases hs
    · cases hs
  | 36, hs, hd, hsd, hr =>
    simp only [jx_s, jx_n] at hs
    simp only [jx_side, Bool.and_eq_true, decide_eq_true_eq] at hsd
    obtain ⟨⟨⟨ha, hb, hfi⟩, hi⟩, hf⟩ := hsd
    split at hs
    · split at hs
      · rename_i ho
        cases hs; obtain rfl := jx_nil hx
        have hb64 : b < 64 := by
          obtain ⟨T, hT⟩ := jx_cls ha
          exact Nat.lt_of_lt_of_le hb (jx_cl_ok a _ hT).2.1
        have k2 := kk _ hr
        refine jx_put C ha hb ho (jx_fl_in hf) hd (Or.inl hfi) ?_ ?_ ?_ ?_ ?_ ?_ k2
        · exact (jx_ref_ok hi ha hb _).1
        · exact (jx_ref_ok hi ha hb _).2
        · rfl
        · rfl
        · exact fun q hq => ⟨by simp [jx_up, hq], rfl⟩
        · simp [jx_f, hb64, hi, jx_V, jx_up]
      · cases hs
    · cases hs
  | 37, hs, hd, hsd, hr =>
    simp only [jx_s, jx_n] at hs
    simp only [jx_side, Bool.and_eq_true, decide_eq_true_eq] at hsd
    obtain ⟨⟨⟨ha, hb, hfi, hkd, hoa⟩, hi⟩, hf⟩ := hsd
    split at hs
    · split at hs
      · rename_i ho
        cases hs; obtain rfl := jx_nil hx
        have hb64 : b < 64 := by
          obtain ⟨T, hT⟩ := jx_cls ha
          exact Nat.lt_of_lt_of_le hb (jx_cl_ok a _ hT).2.1
        have k2 := kk _ hr
        refine jx_put C ha hb ho (jx_fl_in hf) hd (Or.inr ⟨hfi, hin hkd, hoa⟩) ?_ ?_ ?_ ?_ ?_ ?_ k2
        · exact (jx_ref_ok hi ha hb _).1
        · exact (jx_ref_ok hi ha hb _).2
        · rfl
        · rfl
        · exact fun q hq => ⟨by simp [jx_up, hq], rfl⟩
        · simp [jx_f, hb64, hi, jx_V, jx_up]
      · cases hs
    · cases hs
  | 38, hs, hd, hsd, hr =>
    simp only [jx_s, jx_n] at hs
    split at hs
    · split at hs
      · rename_i n ho
        split at hs
        · rename_i hin
          cases hs; obtain rfl := jx_nil hx
          exact jx_iaload C ho hin hd (kk _ hr)
        · cases hs
      · cases hs
    · cases hs
  | 39, hs, hd, hsd, hr =>
    simp only [jx_s, jx_n] at hs
    split at hs
    · split at hs
      · rename_i n ho
        split at hs
        · rename_i hin
          cases hs; obtain rfl := jx_nil hx
          exact jx_baload C ho hin hd (kk _ hr)
        · cases hs
      · rename_i n ho
        split at hs
        · rename_i hin
          cases hs; obtain rfl := jx_nil hx
          exact jx_zaload C ho hin hd (kk _ hr)
        · cases hs
      · cases hs
    · cases hs
  | 40, hs, hd, hsd, hr => cases hs
  | 41, hs, hd, hsd, hr =>
    simp only [jx_s, jx_n] at hs
    split at hs
    · split at hs
      · rename_i n ho
        split at hs
        · rename_i hin
          cases hs; obtain rfl := jx_nil hx
          exact jx_iastore C ho hin hd (kk _ hr)
        · cases hs
      · cases hs
    · cases hs
  | 42, hs, hd, hsd, hr =>
    simp only [jx_s, jx_n] at hs
    split at hs
    · split at hs
      · rename_i n ho
        split at hs
        · rename_i hin
          cases hs; obtain rfl := jx_nil hx
          exact jx_bastore C ho hin hd (kk _ hr)
        · cases hs
      · rename_i n ho
        split at hs
        · rename_i hin
          cases hs; obtain rfl := jx_nil hx
          exact jx_zastore C ho hin hd (kk _ hr)
        · cases hs
      · cases hs
    · cases hs
  | 43, hs, hd, hsd, hr => cases hs
  | 44, hs, hd, hsd, hr =>
    simp only [jx_s, jx_n] at hs
    split at hs
    · split at hs
      · rename_i n ho
        split at hs
        · rename_i hin
          split at hs
          · rename_i hv
            cases hs; obtain rfl := jx_nil hx
            exact jx_aaload C ho hin.1 hin.2 hv hd (kk _ hr)
          · cases hs
        · cases hs
      · cases hs
    · cases hs
  | 45, hs, hd, hsd, hr =>
    simp only [jx_s, jx_n] at hs
    split at hs
    · split at hs
      · rename_i n ho
        split at hs
        · rename_i hin
          cases hs; obtain rfl := jx_nil hx
          exact jx_aastore C ho hin.1 hin.2.1 hin.2.2 hd (kk _ hr)
        · cases hs
      · cases hs
    · cases hs
  | 46, hs, hd, hsd, hr =>
    simp only [jx_s, jx_n] at hs
    have ha3 : a < 3 := by simpa [jx_side] using hsd
    split at hs
    · split at hs
      · rename_i ho
        cases hs
        obtain rfl := jx_app hx
        match a, ha3, hd with
        | 0, _, hd => exact jx_newi C (hG (by simp)) ho.1 ho.2 hcl hsl hd (kk _ hr)
        | 1, _, hd => exact jx_newb C (hG (by simp)) ho.1 ho.2 hcl hsl hd (kk _ hr)
        | 2, _, hd => exact jx_newz C (hG (by simp)) ho.1 ho.2 hcl hsl hd (kk _ hr)
      · cases hs
    · cases hs
  | 47, hs, hd, hsd, hr =>
    simp only [jx_s, jx_n] at hs
    split at hs
    · split at hs
      · rename_i ho
        cases hs
        obtain rfl := jx_app hx
        exact jx_anew C (hG (by simp)) (jx_kl_in hsd) ho.1 ho.2 hcl hsl hd (kk _ hr)
      · cases hs
    · cases hs
  | 48, hs, hd, hsd, hr =>
    simp only [jx_s, jx_n] at hs
    simp only [jx_side, Bool.and_eq_true, decide_eq_true_eq] at hsd
    cases hs
    obtain rfl := jx_app hx
    exact jx_new C (hG (by simp)) hsd.1.1 hsd.1.2 (jx_kl_in hsd.2) hcl hsl hd (kk _ hr)
  | 49, hs, hd, hsd, hr =>
    simp only [jx_s] at hs
    split at hs
    · split at hs <;> cases hs
    · cases hs
  | 50, hs, hd, hsd, hr =>
    simp only [jx_s] at hs
    split at hs <;> cases hs
  | 51, hs, hd, hsd, hr =>
    simp only [jx_s] at hs
    split at hs
    · split at hs <;> cases hs
    · cases hs
  | 52, hs, hd, hsd, hr =>
    simp only [jx_s, jx_n] at hs
    split at hs
    · split at hs
      · rename_i h8
        cases hs; obtain rfl := jx_nil hx
        exact jx_oinit C (jx_ol_in hsd) h8 hfr hlo hd (kk _ hr)
      · cases hs
    · cases hs
  | 53, hs, hd, hsd, hr =>
    simp only [jx_s, jx_n] at hs
    split at hs
    · split at hs
      · rename_i ho1 ho2
        split at hs
        · rename_i ho
          cases hs; obtain rfl := jx_nil hx
          exact jx_acopy C (jx_al_in hsd) ho1 ho2 ho.1 ho.2.1 ho.2.2.1 ho.2.2.2.1 ho.2.2.2.2.1 ho.2.2.2.2.2 hfr hlo hd (kk _ hr)
        · cases hs
      · cases hs
    · cases hs
  | 54, hs, hd, hsd, hr =>
    simp only [jx_s, jx_n] at hs
    cases hs
    obtain rfl := jx_nil hx
    exact jx_goto C hd (kk _ (hat a))
  | 55, hs, hd, hsd, hr =>
    simp only [jx_s, jx_n] at hs
    split at hs
    · cases hs; obtain rfl := jx_nil hx
      exact jx_if_eq C hd (fun q => by rw [if_pos q] at kk; exact kk _ (hat a)) (fun q => by rw [if_neg q] at kk; exact kk _ hr)
    · cases hs
  | 56, hs, hd, hsd, hr =>
    simp only [jx_s, jx_n] at hs
    split at hs
    · cases hs; obtain rfl := jx_nil hx
      exact jx_if_ne C hd (fun q => by rw [if_pos q] at kk; exact kk _ (hat a)) (fun q => by rw [if_neg q] at kk; exact kk _ hr)
    · cases hs
  | 57, hs, hd, hsd, hr =>
    simp only [jx_s, jx_n] at hs
    split at hs
    · cases hs; obtain rfl := jx_nil hx
      exact jx_if_lt C hd (fun q => by rw [if_pos q] at kk; exact kk _ (hat a)) (fun q => by rw [if_neg q] at kk; exact kk _ hr)
    · cases hs
  | 58, hs, hd, hsd, hr =>
    simp only [jx_s, jx_n] at hs
    split at hs
    · cases hs; obtain rfl := jx_nil hx
      exact jx_if_ge C hd (fun q => by rw [if_pos q] at kk; exact kk _ (hat a)) (fun q => by rw [if_neg q] at kk; exact kk _ hr)
    · cases hs
  | 59, hs, hd, hsd, hr =>
    simp only [jx_s, jx_n] at hs
    split at hs
    · cases hs; obtain rfl := jx_nil hx
      exact jx_if_gt C hd (fun q => by rw [if_pos q] at kk; exact kk _ (hat a)) (fun q => by rw [if_neg q] at kk; exact kk _ hr)
    · cases hs
  | 60, hs, hd, hsd, hr =>
    simp only [jx_s, jx_n] at hs
    split at hs
    · cases hs; obtain rfl := jx_nil hx
      exact jx_if_le C hd (fun q => by rw [if_pos q] at kk; exact kk _ (hat a)) (fun q => by rw [if_neg q] at kk; exact kk _ hr)
    · cases hs
  | 61, hs, hd, hsd, hr =>
    simp only [jx_s, jx_n] at hs
    split at hs
    · cases hs; obtain rfl := jx_nil hx
      exact jx_icmp_eq C hd (fun q => by rw [if_pos q] at kk; exact kk _ (hat a)) (fun q => by rw [if_neg q] at kk; exact kk _ hr)
    · cases hs
  | 62, hs, hd, hsd, hr =>
    simp only [jx_s, jx_n] at hs
    split at hs
    · cases hs; obtain rfl := jx_nil hx
      exact jx_icmp_ne C hd (fun q => by rw [if_pos q] at kk; exact kk _ (hat a)) (fun q => by rw [if_neg q] at kk; exact kk _ hr)
    · cases hs
  | 63, hs, hd, hsd, hr =>
    simp only [jx_s, jx_n] at hs
    split at hs
    · cases hs; obtain rfl := jx_nil hx
      exact jx_icmp_lt C hd (fun q => by rw [if_pos q] at kk; exact kk _ (hat a)) (fun q => by rw [if_neg q] at kk; exact kk _ hr)
    · cases hs
  | 64, hs, hd, hsd, hr =>
    simp only [jx_s, jx_n] at hs
    split at hs
    · cases hs; obtain rfl := jx_nil hx
      exact jx_icmp_ge C hd (fun q => by rw [if_pos q] at kk; exact kk _ (hat a)) (fun q => by rw [if_neg q] at kk; exact kk _ hr)
    · cases hs
  | 65, hs, hd, hsd, hr =>
    simp only [jx_s, jx_n] at hs
    split at hs
    · cases hs; obtain rfl := jx_nil hx
      exact jx_icmp_gt C hd (fun q => by rw [if_pos q] at kk; exact kk _ (hat a)) (fun q => by rw [if_neg q] at kk; exact kk _ hr)
    · cases hs
  | 66, hs, hd, hsd, hr =>
    simp only [jx_s, jx_n] at hs
    split at hs
    · cases hs; obtain rfl := jx_nil hx
      exact jx_icmp_le C hd (fun q => by rw [if_pos q] at kk; exact kk _ (hat a)) (fun q => by rw [if_neg q] at kk; exact kk _ hr)
    · cases hs
  | 67, hs, hd, hsd, hr =>
    simp only [jx_s, jx_n] at hs
    split at hs
    · cases hs; obtain rfl := jx_nil hx
      refine jx_tsw C (fun i q hq => ?_) hd (kk _ (hat _))
      have h1 := List.all_eq_true.mp hsd (q, i) (List.mem_of_getElem? (i := i) (by rw [List.getElem?_zipIdx, hq]; simp))
      simpa using h1
    · cases hs
  | 68, hs, hd, hsd, hr =>
    simp only [jx_s, jx_n] at hs
    split at hs
    · cases hs; obtain rfl := jx_nil hx
      exact jx_lsw C hsd hd (kk _ (hat _))
    · cases hs
  | 69, hs, hd, hsd, hr =>
    simp only [jx_s] at hs
    split at hs <;> cases hs
  | 70, hs, hd, hsd, hr =>
    simp only [jx_s] at hs
    split at hs
    · split at hs <;> cases hs
    · cases hs
  | 71, hs, hd, hsd, hr =>
    simp only [jx_s] at hs
    split at hs <;> cases hs
  | 72, hs, hd, hsd, hr =>
    simp only [jx_s, jx_n] at hs
    simp only [jx_side, Bool.and_eq_true, decide_eq_true_eq] at hsd
    split at hs
    · split at hs
      · rename_i h8
        cases hs; obtain rfl := jx_nil hx
        have hw := jx_ml_in hsd.1
        rw [hsd.2] at hw
        exact jx_mmax C hw h8 hfr hlo (by simpa using hcl) (by simpa [jx_sz] using hsl) hd (kk _ hr)
      · cases hs
    · cases hs
  | 73, hs, hd, hsd, hr =>
    simp only [jx_s, jx_n] at hs
    simp only [jx_side, Bool.and_eq_true, decide_eq_true_eq] at hsd
    split at hs
    · split at hs
      · rename_i h8
        cases hs; obtain rfl := jx_nil hx
        have hw := jx_ml_in hsd.1
        rw [hsd.2] at hw
        exact jx_mmin C hw h8 hfr hlo (by simpa using hcl) (by simpa [jx_sz] using hsl) hd (kk _ hr)
      · cases hs
    · cases hs
  | n + 74, hs, hd, hsd, hr => cases hs
end JXQ
