/-! ===== new cells, System.arraycopy, switches ===== -/
section JXN
variable {p : Program} {l : Launch} {e : Env} {R : Room} {s : State} {m : MethodId} {args : Array Value} {below : List Frame} {meth : Method} {c : Code} {base : Nat} {D : va_G} {cA : Nat → ClassId} {O : Nat → va_E} {cc : ByteArray} {nL own : Nat} {Q : State → Prop} {cells slots pc : Nat} {ls st : List Value} {h : jx_H}
theorem jx_S_push {A : Nat → Prop} {H0 H H1 : Heap} {locs : List Loc} (hS : va_S A H0 H locs) (z1 : H1.size = H.size + 1) (o1 : ∀ q, q < H.size → H1[q]? = H[q]?) : va_S A H0 H1 locs :=
  ⟨Nat.le_trans hS.1 (by omega), fun x h1 h2 => (o1 x (Nat.lt_of_lt_of_le h1 hS.1)).trans (hS.2.1 x h1 h2), hS.2.2⟩
theorem jx_def_ok : ∀ c, c < 12 → ∀ k, k < 64 → defaultValue (jx_ty c k) = if jx_isr c k = true then .null else .int 0 := by decide +kernel
theorem jx_newi (C : jx_Cx p s m args meth c base D cA cc nL own) (hG : jx_G O = 0) {n : Int32} (hn : ¬ n < 0) (h1000 : n.toNatClampNeg ≤ 1000) (hc : cells + 1 ≤ R.cells) (hs : slots + n.toNatClampNeg ≤ R.slots) (hd : decode cc pc = .ok (.newarray .int, 2))
    (kk : jx_Go p l e R s m args below meth c base D cA O nL Q (cells + 1) (slots + n.toNatClampNeg) (pc + 2) ls (.ref h.1.length :: st) (h.1 ++ [(0, n.toNatClampNeg)], h.2.1, h.2.2.1, fun o => if o = h.1.length then fun _ => 0 else h.2.2.2 o)) : jx_Go p l e R s m args below meth c base D cA O nL Q cells slots pc ls (.int n :: st) h := fun H locs lsA hP hz0 hS hL => by
  have hz : H.size = base + h.1.length := by omega
  have hK := C.2.2.2.2.2.1.1
  refine va_newaK (atype := .int) C.1 C.2.1 (C.2.2.2.2.1 _ jx_wi) rfl hd rfl hn rfl (by show n.toNatClampNeg * 4 ≤ 536870912; omega) hc hs hz fun H1 cA' e1 z1 o1 hAr hNm => ?_
  have hcA : cA' = cA 0 := Option.some.inj (hNm.symm.trans (hK.2 0 _ rfl).2)
  subst hcA
  refine kk H1 locs lsA ?_ (by rw [z1, hG]; show base + h.1.length + 1 = base + (h.1 ++ [_]).length + 0; rw [List.length_append, List.length_singleton]; omega) (jx_S_push hS (by rw [z1, hz]) (by rw [hz]; exact o1)) hL
  refine jx_P_push (q0 := (0, n.toNatClampNeg)) hP hz rfl (fun i hi => jx_e_congr ?_ ?_ (fun _ _ => rfl) (fun _ _ => rfl)) ?_ (by rw [hz]; exact o1)
  · exact List.getElem?_append_left hi
  · have : ¬ i = h.1.length := by omega
    simp [this]
  · rw [jx_e_arr (h := (h.1 ++ [(0, n.toNatClampNeg)], h.2.1, h.2.2.1, fun o => if o = h.1.length then fun _ => 0 else h.2.2.2 o)) (k := 0) (n := n.toNatClampNeg) (by show (h.1 ++ [_])[h.1.length]? = _; rw [List.getElem?_append_right (Nat.le_refl _), Nat.sub_self]; rfl) (by decide)]
    show H1[base + h.1.length]? = some (vp_cell _ _)
    rw [e1, vp_cell_i]
    simp
    rfl
theorem jx_newb (C : jx_Cx p s m args meth c base D cA cc nL own) (hG : jx_G O = 0) {n : Int32} (hn : ¬ n < 0) (h1000 : n.toNatClampNeg ≤ 1000) (hc : cells + 1 ≤ R.cells) (hs : slots + n.toNatClampNeg ≤ R.slots) (hd : decode cc pc = .ok (.newarray .byte, 2))
    (kk : jx_Go p l e R s m args below meth c base D cA O nL Q (cells + 1) (slots + n.toNatClampNeg) (pc + 2) ls (.ref h.1.length :: st) (h.1 ++ [(1, n.toNatClampNeg)], h.2.1, h.2.2.1, fun o => if o = h.1.length then fun _ => 0 else h.2.2.2 o)) : jx_Go p l e R s m args below meth c base D cA O nL Q cells slots pc ls (.int n :: st) h := fun H locs lsA hP hz0 hS hL => by
  have hz : H.size = base + h.1.length := by omega
  have hK := C.2.2.2.2.2.1.1
  refine va_newaK (atype := .byte) C.1 C.2.1 (C.2.2.2.2.1 _ jx_wb) rfl hd rfl hn rfl (by show n.toNatClampNeg * 1 ≤ 536870912; omega) hc hs hz fun H1 cA' e1 z1 o1 hAr hNm => ?_
  have hcA : cA' = cA 1 := Option.some.inj (hNm.symm.trans (hK.2 1 _ rfl).2)
  subst hcA
  refine kk H1 locs lsA ?_ (by rw [z1, hG]; show base + h.1.length + 1 = base + (h.1 ++ [_]).length + 0; rw [List.length_append, List.length_singleton]; omega) (jx_S_push hS (by rw [z1, hz]) (by rw [hz]; exact o1)) hL
  refine jx_P_push (q0 := (1, n.toNatClampNeg)) hP hz rfl (fun i hi => jx_e_congr ?_ ?_ (fun _ _ => rfl) (fun _ _ => rfl)) ?_ (by rw [hz]; exact o1)
  · exact List.getElem?_append_left hi
  · have : ¬ i = h.1.length := by omega
    simp [this]
  · rw [jx_e_arr (h := (h.1 ++ [(1, n.toNatClampNeg)], h.2.1, h.2.2.1, fun o => if o = h.1.length then fun _ => 0 else h.2.2.2 o)) (k := 1) (n := n.toNatClampNeg) (by show (h.1 ++ [_])[h.1.length]? = _; rw [List.getElem?_append_right (Nat.le_refl _), Nat.sub_self]; rfl) (by decide)]
    show H1[base + h.1.length]? = some (vp_cell _ _)
    rw [e1, vp_cell_i]
    simp
    rfl
theorem jx_newz (C : jx_Cx p s m args meth c base D cA cc nL own) (hG : jx_G O = 0) {n : Int32} (hn : ¬ n < 0) (h1000 : n.toNatClampNeg ≤ 1000) (hc : cells + 1 ≤ R.cells) (hs : slots + n.toNatClampNeg ≤ R.slots) (hd : decode cc pc = .ok (.newarray .boolean, 2))
    (kk : jx_Go p l e R s m args below meth c base D cA O nL Q (cells + 1) (slots + n.toNatClampNeg) (pc + 2) ls (.ref h.1.length :: st) (h.1 ++ [(2, n.toNatClampNeg)], h.2.1, h.2.2.1, fun o => if o = h.1.length then fun _ => 0 else h.2.2.2 o)) : jx_Go p l e R s m args below meth c base D cA O nL Q cells slots pc ls (.int n :: st) h := fun H locs lsA hP hz0 hS hL => by
  have hz : H.size = base + h.1.length := by omega
  have hK := C.2.2.2.2.2.1.1
  refine va_newaK (atype := .boolean) C.1 C.2.1 (C.2.2.2.2.1 _ jx_wz) rfl hd rfl hn rfl (by show n.toNatClampNeg * 1 ≤ 536870912; omega) hc hs hz fun H1 cA' e1 z1 o1 hAr hNm => ?_
  have hcA : cA' = cA 2 := Option.some.inj (hNm.symm.trans (hK.2 2 _ rfl).2)
  subst hcA
  refine kk H1 locs lsA ?_ (by rw [z1, hG]; show base + h.1.length + 1 = base + (h.1 ++ [_]).length + 0; rw [List.length_append, List.length_singleton]; omega) (jx_S_push hS (by rw [z1, hz]) (by rw [hz]; exact o1)) hL
  refine jx_P_push (q0 := (2, n.toNatClampNeg)) hP hz rfl (fun i hi => jx_e_congr ?_ ?_ (fun _ _ => rfl) (fun _ _ => rfl)) ?_ (by rw [hz]; exact o1)
  · exact List.getElem?_append_left hi
  · have : ¬ i = h.1.length := by omega
    simp [this]
  · rw [jx_e_arr (h := (h.1 ++ [(2, n.toNatClampNeg)], h.2.1, h.2.2.1, fun o => if o = h.1.length then fun _ => 0 else h.2.2.2 o)) (k := 2) (n := n.toNatClampNeg) (by show (h.1 ++ [_])[h.1.length]? = _; rw [List.getElem?_append_right (Nat.le_refl _), Nat.sub_self]; rfl) (by decide)]
    show H1[base + h.1.length]? = some (vp_cell _ _)
    rw [e1, vp_cell_i]
    simp
    rfl
theorem jx_anew (C : jx_Cx p s m args meth c base D cA cc nL own) (hG : jx_G O = 0) {n : Int32} {d : Nat} (hw : Cond.classLink (jx_nm own) d jx_SC ∈ lw_g) (hn : ¬ n < 0) (h64 : n.toNatClampNeg ≤ 64) (hc : cells + 1 ≤ R.cells) (hs : slots + n.toNatClampNeg ≤ R.slots) (hd : decode cc pc = .ok (.anewarray d, 3))
    (kk : jx_Go p l e R s m args below meth c base D cA O nL Q (cells + 1) (slots + n.toNatClampNeg) (pc + 3) ls (.ref h.1.length :: st) (h.1 ++ [(4, n.toNatClampNeg)], fun q => if 64 * h.1.length ≤ q then .null else h.2.1 q, h.2.2.1, h.2.2.2)) : jx_Go p l e R s m args below meth c base D cA O nL Q cells slots pc ls (.int n :: st) h := fun H locs lsA hP hz0 hS hL => by
  have hz : H.size = base + h.1.length := by omega
  have hK := C.2.2.2.2.2.1
  refine W.anew (C := jx_SC) C.1 C.2.1 C.2.2.2.1 (C.2.2.2.2.1 _ hw) (va_AO.use hK.2) rfl hd rfl hn (by omega) hc hs fun cA' kA comp f1 f2 f3 f4 => ?_
  generalize hH1 : H.push ({ cls := cA', slots := Array.replicate n.toNatClampNeg .null, vm := .none } : Cell) = H1
  have z1 : H1.size = H.size + 1 := by rw [← hH1, Array.size_push]
  have e1 : H1[H.size]? = some (arrV cA' n.toNatClampNeg (fun _ => .null)) := by rw [← hH1, Array.getElem?_push_size, ← arrV_new]
  have o1 : ∀ q : Nat, q < H.size → H1[q]? = H[q]? := fun q hq => by rw [← hH1, Array.getElem?_push, if_neg (Nat.ne_of_lt hq)]
  obtain ⟨kA2, comp2, g1, g2, g3, g4⟩ := (hK.1.2 3 _ rfl).2
  have hcA : cA' = cA 4 := Option.some.inj (f1.symm.trans g4)
  subst hcA
  have hgo := kk H1 locs lsA ?_ (by rw [z1, hz, hG]; show base + h.1.length + 1 = base + (h.1 ++ [_]).length + 0; rw [List.length_append, List.length_singleton]; omega) (jx_S_push hS z1 o1) hL
  · simp only [List.map_cons, jx_V] at hgo
    rw [← hz] at hgo
    exact hgo
  refine jx_P_push (q0 := (4, n.toNatClampNeg)) hP hz rfl (fun i hi => jx_e_congr ?_ rfl (fun j hj => ?_) (fun _ _ => rfl)) ?_ o1
  · exact List.getElem?_append_left hi
  · have : ¬ 64 * h.1.length ≤ 64 * i + j := by omega
    simp [this]
  · rw [jx_e_q (h := (h.1 ++ [(4, n.toNatClampNeg)], fun q => if 64 * h.1.length ≤ q then .null else h.2.1 q, h.2.2.1, h.2.2.2)) (n := n.toNatClampNeg) (by show (h.1 ++ [_])[h.1.length]? = _; rw [List.getElem?_append_right (Nat.le_refl _), Nat.sub_self]; rfl)]
    show H1[base + h.1.length]? = some (vp_cell _ _)
    rw [← hz, e1, vp_cell_q]
    congr 2
    funext j
    by_cases hj : j < 64
    · have : 64 * h.1.length ≤ 64 * h.1.length + j := by omega
      simp [hj, jx_oq, va_rf]
    · simp [hj, va_rf]
theorem jx_new (C : jx_Cx p s m args meth c base D cA cc nL own) (hG : jx_G O = 0) {a d : Nat} (ha : a < 12) (ha1 : a ≠ 1) (hw : Cond.classLink (jx_nm own) d (jx_nm a) ∈ lw_g) (hc : cells + 1 ≤ R.cells) (hs : slots + jx_N a ≤ R.slots) (hd : decode cc pc = .ok (.new d, 3))
    (kk : jx_Go p l e R s m args below meth c base D cA O nL Q (cells + 1) (slots + jx_N a) (pc + 3) ls (.ref h.1.length :: st) (h.1 ++ [(10 + a, jx_N a)], fun q => if 64 * h.1.length ≤ q then .null else h.2.1 q, fun q => if 64 * h.1.length ≤ q then 0 else h.2.2.1 q, h.2.2.2)) : jx_Go p l e R s m args below meth c base D cA O nL Q cells slots pc ls st h := fun H locs lsA hP hz0 hS hL => by
  have hz : H.size = base + h.1.length := by omega
  have hK := C.2.2.2.2.2.1
  obtain ⟨T, hT⟩ := jx_cls ha
  have hok := jx_cl_ok a _ hT
  have hnw := jx_new_ok a _ hT ha1 ha
  have hKn := hK.1.1 a _ hT
  refine W.newcK C.1 C.2.1 C.2.2.2.1 (C.2.2.2.2.1 _ hw) (C.2.2.2.2.1 _ hnw.1) (C.2.2.2.2.1 _ hnw.2) rfl hd hc hs hKn.2.1 hz fun H1 kC hkC e1 z1 o1 => ?_
  refine kk H1 locs lsA ?_ (by rw [z1, hG]; show base + h.1.length + 1 = base + (h.1 ++ [_]).length + 0; rw [List.length_append, List.length_singleton]; omega) (jx_S_push hS (by rw [z1, hz]) (by rw [hz]; exact o1)) hL
  refine jx_P_push (q0 := (10 + a, jx_N a)) hP hz rfl (fun i hi => jx_e_congr ?_ rfl (fun j hj => ?_) (fun j hj => ?_)) ?_ (by rw [hz]; exact o1)
  · exact List.getElem?_append_left hi
  · have : ¬ 64 * h.1.length ≤ 64 * i + j := by omega
    simp [this]
  · have : ¬ 64 * h.1.length ≤ 64 * i + j := by omega
    simp [this]
  · rw [jx_e_obj (h := (h.1 ++ [(10 + a, jx_N a)], fun q => if 64 * h.1.length ≤ q then .null else h.2.1 q, fun q => if 64 * h.1.length ≤ q then 0 else h.2.2.1 q, h.2.2.2)) (c := a) (n := jx_N a) (by show (h.1 ++ [_])[h.1.length]? = _; rw [List.getElem?_append_right (Nat.le_refl _), Nat.sub_self]; rfl)]
    refine ⟨_, hT, (u_born (jx_ty a) C.2.2.2.2.1 hok.2.2.1 hKn hkC e1 hok.2.2.2.2.1).to (fun k hk => ?_)⟩
    have hk64 : k < 64 := Nat.lt_of_lt_of_le hk hok.2.1
    have hk2 : k < jx_N a := hk
    rw [jx_def_ok a ha k hk64]
    simp [vp_V, List.getD_eq_getElem?_getD, hk2, jx_f, hk64, jx_V]
theorem jx_oinit (C : jx_Cx p s m args meth c base D cA cc nL own) {d o : Nat} (hw : Cond.methodLink (jx_nm own) d Lib.objectInit ∈ lw_g) (h8 : jx_c8 st) (hfr : 1 ≤ R.frames) (hlo : 64 ≤ R.locals) (hd : decode cc pc = .ok (.invokespecial d, 3)) (kk : jx_Go p l e R s m args below meth c base D cA O nL Q cells slots (pc + 3) ls st h) : jx_Go p l e R s m args below meth c base D cA O nL Q cells slots pc ls (.ref o :: st) h := fun H locs lsA hP hz hS hL => by
  obtain ⟨hl1, lv, hl2, hl3⟩ := id hL
  refine W.objInit C.1 C.2.1 C.2.2.2.1 (C.2.2.2.2.1 _ hw) (C.2.2.2.2.1 _ jx_wo1) (C.2.2.2.2.1 _ jx_wo2) (g := F0 m pc lsA (.ref (base + o) :: st.map (jx_V base))) rfl (by show lsA.size = c.maxLocals; rw [hl2.1, C.2.2.1]) (a := base + o) (rest := st.map (jx_V base)) rfl hd hfr ?_ (kk H locs lsA hP hz hS hL)
  have e1 : ((st.map (jx_V base)).map fun v => v.category) = st.map fun v => v.category := by
    rw [List.map_map]
    exact List.map_congr_left fun v _ => jx_V_cat base v
  show 2 * 0 + ((st.map (jx_V base)).map fun v => v.category).sum + 12 ≤ R.locals
  rw [e1]
  have : (st.map fun v => v.category).sum ≤ 8 := h8
  omega
theorem jx_acopy (C : jx_Cx p s m args meth c base D cA cc nL own) {d o q n0 n1 : Nat} {sp dp n : Int32} (hw : Cond.methodLink (jx_nm own) d arraycopyName ∈ lw_g) (ho : h.1[o]? = some (0, n0)) (hq : h.1[q]? = some (0, n1)) (h1 : ¬ sp < 0) (h2 : ¬ dp < 0) (h3 : ¬ n < 0) (h4 : sp.toNatClampNeg + n.toNatClampNeg ≤ n0) (h5 : dp.toNatClampNeg + n.toNatClampNeg ≤ n1) (h8 : jx_c8 st) (hfr : 1 ≤ R.frames) (hlo : 64 ≤ R.locals) (hd : decode cc pc = .ok (.invokestatic d, 3))
    (kk : jx_Go p l e R s m args below meth c base D cA O nL Q cells slots (pc + 3) ls st (h.1, h.2.1, h.2.2.1, fun z => if z = q then va_cpy (h.2.2.2 o) (h.2.2.2 q) sp.toNatClampNeg dp.toNatClampNeg n.toNatClampNeg else h.2.2.2 z)) : jx_Go p l e R s m args below meth c base D cA O nL Q cells slots pc ls (.int n :: .int dp :: .ref q :: .int sp :: .ref o :: st) h := fun H locs lsA hP hz hS hL => by
  have hK := C.2.2.2.2.2.1.1
  obtain ⟨hl1, lv, hl2, hl3⟩ := id hL
  have ha0 : (jx_ws base cA O h)[o]? = some (base + o, .inl (cA 0, n0, .inl (h.2.2.2 o))) := by rw [jx_ws_get (jx_lt ho), jx_e_arr ho (by decide)]
  have ha1 : (jx_ws base cA O h)[q]? = some (base + q, .inl (cA 0, n1, .inl (h.2.2.2 q))) := by rw [jx_ws_get (jx_lt hq), jx_e_arr hq (by decide)]
  have nn : ∀ z : Int32, ¬ z < 0 → z.toInt = (z.toNatClampNeg : Int) := by
    intro z hz
    have hz0 : (0 : Int) ≤ z.toInt := by
      have := Int32.not_lt.mp hz
      simpa using Int32.le_iff_toInt_le.mp this
    show z.toInt = ((z.toInt.toNat : Nat) : Int)
    omega
  have e8 : ((st.map (jx_V base)).map fun v => v.category) = st.map fun v => v.category := by
    rw [List.map_map]
    exact List.map_congr_left fun v _ => jx_V_cat base v
  have h8' : (st.map fun v => v.category).sum ≤ 8 := h8
  have hnf : nativeFrameWords "java/lang/System" "arraycopy" 5 + 11 ≤ 56 := by decide +kernel
  intro T hT X
  have hc0 : H[base + o]? = some (vp_cell (cA 0) (n0, .inl (h.2.2.2 o))) := hP o _ ha0
  have hc1 : H[base + q]? = some (vp_cell (cA 0) (n1, .inl (h.2.2.2 q))) := hP q _ ha1
  obtain ⟨-, k0, hk0, cm0, hkk0⟩ := (hK.2 0 _ rfl).1 n0 (fun j => .int (h.2.2.2 o j))
  obtain ⟨-, k1, hk1, cm1, hkk1⟩ := (hK.2 0 _ rfl).1 n1 (fun j => .int (h.2.2.2 q j))
  obtain ⟨vm', X', step⟩ := X.arraycopy C.1 C.2.2.2.1 (C.2.2.2.2.1 _ hw) (C.2.2.2.2.1 _ jx_wa1) (C.2.2.2.2.1 _ jx_wa2) (C.2.2.2.2.1 _ jx_wa3) (src := base + o) (dst := base + q) (cs := vp_cell (cA 0) (n0, .inl (h.2.2.2 o))) (cd := vp_cell (cA 0) (n1, .inl (h.2.2.2 q))) (srcPos := sp) (destPos := dp) (n := n) (by rw [hT]; exact hc0) (by rw [hT]; exact hc1)
    (fun _ h => by cases h) (fun _ h => by cases h) (fun h => by cases h) (fun h => by cases h) hk0 hk1 hkk0 hkk1 (by simp [refKind]) h1 h2 h3
    (by rw [nn sp h1, nn n h3]; show ¬ _ > ((arrV (cA 0) n0 (fun j => .int (h.2.2.2 o j))).slots.size : Int); rw [arrV_size]; omega)
    (by rw [nn dp h2, nn n h3]; show ¬ _ > ((arrV (cA 0) n1 (fun j => .int (h.2.2.2 q j))).slots.size : Int); rw [arrV_size]; omega)
    (fun vm₁ _ i hi => by
      have e : (vp_cell (cA 0) (n0, .inl (h.2.2.2 o))).slots.getD (sp.toNatClampNeg + i) .null = .int (h.2.2.2 o (sp.toNatClampNeg + i)) := by
        show (arrV (cA 0) n0 (fun j => .int (h.2.2.2 o j))).slots.getD _ _ = _
        rw [Array.getD_eq_getD_getElem?, arrV_read _ _ (by omega)]
        rfl
      refine ⟨?_, ?_⟩
      · rw [e]
        rfl
      · rw [e]
        exact trivial)
    (g := F0 m pc lsA (.int n :: .int dp :: .ref (base + q) :: .int sp :: .ref (base + o) :: st.map (jx_V base))) rfl (by show lsA.size = c.maxLocals; rw [hl2.1, C.2.2.1]) (rest := st.map (jx_V base)) rfl (by rw [C.2.1]; exact hd) hfr (by show 2 * 0 + _ + _ ≤ _; rw [e8]; omega)
  have e1 : copied (vp_cell (cA 0) (n0, .inl (h.2.2.2 o))) (vp_cell (cA 0) (n1, .inl (h.2.2.2 q))) sp dp n = vp_cell (cA 0) (n1, .inl (va_cpy (h.2.2.2 o) (h.2.2.2 q) sp.toNatClampNeg dp.toNatClampNeg n.toNatClampNeg)) := va_copied (fun z => .int z) (cA 0) (cA 0) (h.2.2.2 o) (h.2.2.2 q) h4
  rw [e1] at X' step
  have hl : base + q < H.size := (Array.getElem?_eq_some_iff.mp hc1).1
  have hheap : ((T.setVm vm').setCell (base + q) (vp_cell (cA 0) (n1, .inl (va_cpy (h.2.2.2 o) (h.2.2.2 q) sp.toNatClampNeg dp.toNatClampNeg n.toNatClampNeg)))).heap = H.setIfInBounds (base + q) (vp_cell (cA 0) (n1, .inl (va_cpy (h.2.2.2 o) (h.2.2.2 q) sp.toNatClampNeg dp.toNatClampNeg n.toNatClampNeg))) := by rw [← hT]; rfl
  have oq : ∀ z : Nat, z ≠ base + q → (H.setIfInBounds (base + q) (vp_cell (cA 0) (n1, .inl (va_cpy (h.2.2.2 o) (h.2.2.2 q) sp.toNatClampNeg dp.toNatClampNeg n.toNatClampNeg))))[z]? = H[z]? := fun z hz => by simp [Array.getElem?_setIfInBounds, Ne.symm hz]
  obtain ⟨t, a1, b1⟩ := kk _ _ lsA (jx_P_set hP rfl (jx_lt hq) (fun j hj => jx_e_congr rfl (by simp [hj]) (fun _ _ => rfl) (fun _ _ => rfl)) (by
      rw [jx_e_arr (h := (h.1, h.2.1, h.2.2.1, fun z => if z = q then va_cpy (h.2.2.2 o) (h.2.2.2 q) sp.toNatClampNeg dp.toNatClampNeg n.toNatClampNeg else h.2.2.2 z)) hq (by decide)]
      show (H.setIfInBounds (base + q) _)[base + q]? = some (vp_cell _ _)
      simp [Array.getElem?_setIfInBounds, hl]) oq) (by simp; exact hz) ⟨by simp; exact hS.1, fun z g1 g2 => by
      rw [oq z (fun e => g2 (by rw [e]; exact Nat.le_add_right _ _))]
      exact hS.2.1 z g1 g2, fun z hz => by
      rcases List.mem_append.mp hz with h | h
      · exact hS.2.2 z h
      · obtain ⟨w, -, hw⟩ := List.mem_map.mp h
        rw [← hw]
        exact Nat.le_add_right _ _⟩ hL _ hheap X'
  exact ⟨t, step t a1, b1⟩
theorem jx_lk_off {pc a : Nat} : ∀ (L : List (Int32 × Nat)) (z : Int32), Op.lookupswitch.offset (L.map fun q => (q.1.toInt, (q.2 : Int) - pc)) ((a : Int) - pc) z.toInt = (jx_lk L z a : Int) - pc
  | [], z => rfl
  | q :: L, z => by
    by_cases hq : z = q.1
    · subst hq
      simp [jx_lk, Op.lookupswitch.offset]
    · have h1 : ¬ z.toInt = q.1.toInt := fun h => hq (Int32.toInt_inj.mp h)
      rw [List.map_cons, lv_osw hq rfl, jx_lk_off L z]
      simp [jx_lk, hq]
theorem jx_lsw (C : jx_Cx p s m args meth c base D cA cc nL own) {a d : Nat} {z : Int32} {L : List (Int32 × Nat)} (hs : ((L.map fun q => (q.1.toInt, (q.2 : Int) - pc)).zip ((L.map fun q => (q.1.toInt, (q.2 : Int) - pc)).drop 1)).all (fun (a, next) => a.1 < next.1) = true) (hd : decode cc pc = .ok (.lookupswitch ((a : Int) - pc) (L.map fun q => (q.1.toInt, (q.2 : Int) - pc)).toArray, d))
    (kk : jx_Go p l e R s m args below meth c base D cA O nL Q cells slots (jx_lk L z a) ls st h) : jx_Go p l e R s m args below meth c base D cA O nL Q cells slots pc ls (.int z :: st) h := fun H locs lsA hP hz hS hL =>
  lv_lookup C.1 C.2.1 hd hs (jx_lk_off L z) (by omega) (kk H locs lsA hP hz hS hL)
theorem jx_tk (x : Int32) : ∀ (L : List (Int32 × Nat)) (k : Nat) (z : Int32) (a : Nat), (∀ (i : Nat) (q : Int32 × Nat), L[i]? = some q → q.1.toInt = x.toInt + k + i) → (if z.toInt < x.toInt + k ∨ x.toInt + k + L.length - 1 < z.toInt then jx_lk L z a = a else ∃ q, L[(z.toInt - (x.toInt + k)).toNat]? = some q ∧ jx_lk L z a = q.2)
  | [], k, z, a, hL => by
    rw [if_pos]
    · rfl
    · simp only [List.length_nil]
      omega
  | q :: L, k, z, a, hL => by
    have h0 : q.1.toInt = x.toInt + k := by
      have := hL 0 q rfl
      omega
    have ih := jx_tk x L (k + 1) z a (fun i r hr => by
      have := hL (i + 1) r (by simpa using hr)
      omega)
    by_cases hz : z = q.1
    · have hzi : z.toInt = x.toInt + k := by rw [hz]; exact h0
      rw [if_neg (by simp only [List.length_cons]; omega)]
      refine ⟨q, ?_, by simp [jx_lk, hz]⟩
      rw [show (z.toInt - (x.toInt + k)).toNat = 0 by omega]
      rfl
    · have hzi : ¬ z.toInt = x.toInt + k := fun h => hz (Int32.toInt_inj.mp (h.trans h0.symm))
      have e1 : jx_lk (q :: L) z a = jx_lk L z a := by simp [jx_lk, hz]
      rw [e1]
      by_cases hc : z.toInt < x.toInt + (k + 1 : Nat) ∨ x.toInt + (k + 1 : Nat) + L.length - 1 < z.toInt
      · rw [if_pos hc] at ih
        rw [if_pos (by simp only [List.length_cons]; omega)]
        exact ih
      · rw [if_neg hc] at ih
        rw [if_neg (by simp only [List.length_cons]; omega)]
        obtain ⟨r, h1, h2⟩ := ih
        refine ⟨r, ?_, h2⟩
        rw [show (z.toInt - (x.toInt + k)).toNat = (z.toInt - (x.toInt + (k + 1 : Nat))).toNat + 1 by omega]
        simpa using h1
theorem jx_tsw (C : jx_Cx p s m args meth c base D cA cc nL own) {a d : Nat} {x z : Int32} {L : List (Int32 × Nat)} (hL0 : ∀ (i : Nat) (q : Int32 × Nat), L[i]? = some q → q.1.toInt = x.toInt + i) (hd : decode cc pc = .ok (.tableswitch ((a : Int) - pc) x.toInt (x.toInt + L.length - 1) (L.map fun q => (q.2 : Int) - pc).toArray, d))
    (kk : jx_Go p l e R s m args below meth c base D cA O nL Q cells slots (jx_lk L z a) ls st h) : jx_Go p l e R s m args below meth c base D cA O nL Q cells slots pc ls (.int z :: st) h := fun H locs lsA hP hz hS hL => by
  have hk := jx_tk x L 0 z a (fun i q hq => by have := hL0 i q hq; omega)
  by_cases hc : z.toInt < x.toInt ∨ x.toInt + L.length - 1 < z.toInt
  · rw [if_pos (by omega)] at hk
    rw [hk] at kk
    exact lv_tableOut C.1 C.2.1 hd hc (by omega) (kk H locs lsA hP hz hS hL)
  · rw [if_neg (by omega)] at hk
    obtain ⟨q, h1, h2⟩ := hk
    rw [h2] at kk
    refine lv_tableIn C.1 C.2.1 hd (by omega) (by omega) (off := (q.2 : Int) - pc) ?_ (by omega) (kk H locs lsA hP hz hS hL)
    have h3 : L[(z.toInt - x.toInt).toNat]? = some q := by
      rw [show (z.toInt - x.toInt).toNat = (z.toInt - (x.toInt + (0 : Nat))).toNat by omega]
      exact h1
    simp [h3]
theorem jx_mmax (C : jx_Cx p s m args meth c base D cA cc nL own) {d : Nat} {y z : Int32} (hw : Cond.methodLink (jx_nm own) d Lib.Math.max.name ∈ lw_g) (h8 : jx_c8 st) (hfr : 1 ≤ R.frames) (hlo : 64 ≤ R.locals) (hc : cells ≤ R.cells) (hs : slots ≤ R.slots) (hd : decode cc pc = .ok (.invokestatic d, 3)) (kk : jx_Go p l e R s m args below meth c base D cA O nL Q cells slots (pc + 3) ls (.int (jx_max z y) :: st) h) : jx_Go p l e R s m args below meth c base D cA O nL Q cells slots pc ls (.int y :: .int z :: st) h := fun H locs lsA hP hz hS hL => by
  obtain ⟨hl1, lv, hl2, hl3⟩ := id hL
  have e1 : ((st.map (jx_V base)).map fun v => v.category) = st.map fun v => v.category := by
    rw [List.map_map]
    exact List.map_congr_left fun v _ => jx_V_cat base v
  have h8' : (st.map fun v => v.category).sum ≤ 8 := h8
  exact va_mmax (rest := st.map (jx_V base)) C.1 C.2.1 (by rw [hl2.1, C.2.2.1]) C.2.2.2.1 (C.2.2.2.2.1 _ hw) (C.2.2.2.2.1 _ jx_wmax1) (C.2.2.2.2.1 _ jx_wm0) (C.2.2.2.2.1 _ jx_wmax2) hfr (by rw [e1]; omega) hc hs hd (kk H locs lsA hP hz hS hL)
theorem jx_mmin (C : jx_Cx p s m args meth c base D cA cc nL own) {d : Nat} {y z : Int32} (hw : Cond.methodLink (jx_nm own) d Lib.Math.min.name ∈ lw_g) (h8 : jx_c8 st) (hfr : 1 ≤ R.frames) (hlo : 64 ≤ R.locals) (hc : cells ≤ R.cells) (hs : slots ≤ R.slots) (hd : decode cc pc = .ok (.invokestatic d, 3)) (kk : jx_Go p l e R s m args below meth c base D cA O nL Q cells slots (pc + 3) ls (.int (jx_min z y) :: st) h) : jx_Go p l e R s m args below meth c base D cA O nL Q cells slots pc ls (.int y :: .int z :: st) h := fun H locs lsA hP hz hS hL => by
  obtain ⟨hl1, lv, hl2, hl3⟩ := id hL
  have e1 : ((st.map (jx_V base)).map fun v => v.category) = st.map fun v => v.category := by
    rw [List.map_map]
    exact List.map_congr_left fun v _ => jx_V_cat base v
  have h8' : (st.map fun v => v.category).sum ≤ 8 := h8
  exact va_mmin (rest := st.map (jx_V base)) C.1 C.2.1 (by rw [hl2.1, C.2.2.1]) C.2.2.2.1 (C.2.2.2.2.1 _ hw) (C.2.2.2.2.1 _ jx_wmin1) (C.2.2.2.2.1 _ jx_wm0) (C.2.2.2.2.1 _ jx_wmin2) hfr (by rw [e1]; omega) hc hs hd (kk H locs lsA hP hz hS hL)
end JXN
