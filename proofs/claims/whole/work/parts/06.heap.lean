/-! ===== stores, rows, new cells ===== -/
section JXP
variable {p : Program} {l : Launch} {e : Env} {R : Room} {s : State} {m : MethodId} {args : Array Value} {below : List Frame} {meth : Method} {c : Code} {base : Nat} {D : va_G} {cA : Nat → ClassId} {O : Nat → va_E} {cc : ByteArray} {nL own : Nat} {Q : State → Prop} {cells slots pc : Nat} {ls st : List Value} {h : jx_H}
theorem jx_range_set {n k : Nat} (f g : Nat → Value) (hk : k < n) (hfg : ∀ j, j ≠ k → g j = f j) : (List.range n).map g = ((List.range n).map f).set k (g k) := by
  refine List.ext_getElem? fun i => ?_
  by_cases hik : i = k
  · subst hik
    rw [List.getElem?_set_self (by simpa using hk), List.getElem?_map, List.getElem?_range hk]
    rfl
  · rw [List.getElem?_set_ne (Ne.symm hik), List.getElem?_map, List.getElem?_map]
    by_cases hin : i < n
    · rw [List.getElem?_range hin]
      simp [hfg i hik]
    · rw [List.getElem?_eq_none (by simpa using hin)]
      rfl
theorem jx_put (C : jx_Cx p s m args meth c base D cA cc nL own) {a b d o : Nat} (ha : a < 12) (hb : b < jx_N a) (ho : h.1[o]? = some (10 + a, jx_N a)) (hw : Cond.fieldLink (jx_nm own) d (jx_nm a) ((jx_cl.getD a ("", jx_T0, 0)).2.1 b).2.1 ((jx_cl.getD a ("", jx_T0, 0)).2.1 b).2.2.1 ∈ lw_g) (hd : decode cc pc = .ok (.putfield d, 3))
    (hfin : ((jx_cl.getD a ("", jx_T0, 0)).2.1 b).2.2.2 = false ∨ (((jx_cl.getD a ("", jx_T0, 0)).2.1 b).2.2.2 = true ∧ meth.name = "<init>" ∧ own = a))
    {v : Value} {h1 : jx_H} (hn : narrow (jx_ty a b) (jx_V base v) = jx_V base v) (hfit : fits (jx_ty a b) (jx_V base v) = true) (hl1 : h1.1 = h.1) (hA1 : h1.2.2.2 = h.2.2.2) (hne : ∀ q, q ≠ 64 * o + b → h1.2.1 q = h.2.1 q ∧ h1.2.2.1 q = h.2.2.1 q) (hv : jx_f base h1 a o b = jx_V base v)
    (kk : jx_Go p l e R s m args below meth c base D cA O nL Q cells slots (pc + 3) ls st h1) : jx_Go p l e R s m args below meth c base D cA O nL Q cells slots pc ls (v :: .ref o :: st) h := fun H locs lsA hP hz hS hL => by
  obtain ⟨T, hT⟩ := jx_cls ha
  have hok := jx_cl_ok a _ hT
  have hD : (jx_cl.getD a ("", jx_T0, 0)).2.1 = T := by rw [List.getD_eq_getElem?_getD, hT]; rfl
  rw [hD] at hw hfin
  have hN : jx_N a ≤ 64 := hok.2.1
  have hb64 : b < 64 := by omega
  obtain ⟨r, e1, cell, q1, q2, q3, q4⟩ := hP o _ (jx_obj_at ho)
  have hr : r = (jx_nm a, T, jx_N a) := Option.some.inj (e1.symm.trans hT)
  subst hr
  have hKs := C.2.2.2.2.2.1.1
  obtain ⟨hSl, hfc, kC, hkC, hkind⟩ := hKs.1 a _ hT
  obtain ⟨cf, kf, fi, f, hi, hsl⟩ := hSl b hb
  have hap := va_apart (own := jx_nm own) C.2.2.2.2.1 hok.2.2.1 (jx_ty a) hok.2.2.2.2.1 hok.2.2.2.1 hKs hT
  have hlays := u_lays (args := args) C.2.2.2.2.1 hok.2.2.1 hb
  have hst := (u_facts hfc hkC hlays hi).1
  have hi2 : s.fieldFound? (jx_nm a) (T b).2.1 (T b).2.2.1 = some (cf, kf, fi, f) := by
    have := hok.2.2.2.2.2 b hb
    simp only at this
    rw [this] at hi
    exact hi
  have fin : ∀ H' : Heap, H'[base + o]? = some (cell.setSlot f.slot (jx_V base v)) → H'.size = H.size → (∀ q, q ≠ base + o → H'[q]? = H[q]?) → W p l e R s m args below meth c H' (locs ++ [⟨base + o, f.slot⟩]) cells slots Q (F0 m (pc + 3) lsA (st.map (jx_V base))) := by
    intro H' g1 g2 g3
    refine kk H' _ lsA ?_ (by rw [g2, hz, hl1]) ?_ hL
    · refine jx_P_set hP hl1 (jx_lt ho) (fun i hio => ?_) ?_ g3
      · refine jx_e_congr (by rw [hl1]) (by rw [hA1]) (fun j hj => (hne _ (by omega)).1) (fun j hj => (hne _ (by omega)).2)
      · rw [jx_e_obj (by rw [hl1]; exact ho)]
        refine ⟨_, hT, ?_⟩
        rw [jx_range_set (jx_f base h a o) (jx_f base h1 a o) hb (fun j hj => ?_), hv]
        · rw [hsl] at g1
          exact t_OB.to (V := updV (vp_V ((List.range (jx_N a)).map (jx_f base h a o))) b (jx_V base v)) ⟨_, g1, q2, q3, t_set q4 hap hb (jx_V base v)⟩ (fun j _ => vp_updV_set (by simpa using hb) (jx_V base v) j)
        · unfold jx_f
          by_cases hj64 : j < 64
          · have := hne (64 * o + j) (by omega)
            simp only [hj64, if_true, this.1, this.2]
          · simp only [hj64, if_false]
    · exact hS.put g2 g3 (Nat.le_add_right _ _)
  rcases hfin with hf | ⟨hf, hm, ho2⟩
  · have hlay := C.2.2.2.2.1 _ (hok.2.2.1 _ (u_in_lay hb))
    unfold u_lay at hlay
    rw [if_neg (by rw [hf]; decide)] at hlay
    have h6 := u_store hfc hkC hkind hlay hi (hok.2.2.2.2.1 b hb) hn hfit
    exact W.putK C.1 C.2.1 (f := f) ⟨C.2.2.2.1, C.2.2.2.2.1 _ hw, ⟨_, _, _, hi2⟩, hst⟩ (by rw [q2]; exact h6) q1 q3 (by rw [hsl]; exact k2_hasslot (q4 b hb)) rfl rfl hd fin
  · subst ho2
    have hlay := C.2.2.2.2.1 _ (hok.2.2.1 _ (u_in_lay hb))
    unfold u_lay at hlay
    rw [if_pos hf] at hlay
    have hcf : m.cls = cf := by
      obtain ⟨_, _, c', _, _, _, -, -, hf', -, -, -, hown2, -⟩ := Cond.laysFinal_spec hlay
      have e1 : c' = cf := by have := hi.symm.trans hf'; simp at this; exact this.1.symm
      have e2 := hok.2.2.2.2.2 b hb
      simp only at e2
      rw [e2] at hown2
      rw [← e1]; exact Option.some.inj (C.2.2.2.1.symm.trans hown2)
    have h6 := u_fits hfc hkC hkind (Or.inr hlay) hi (hok.2.2.2.2.1 b hb) hn hfit
    exact W.putFinK C.1 C.2.1 C.2.2.2.1 (C.2.2.2.2.1 _ hw) hi2 hst hcf hm (by rw [q2]; exact h6) q1 q3 (by rw [hsl]; exact k2_hasslot (q4 b hb)) rfl rfl hd fin
theorem jx_iaload (C : jx_Cx p s m args meth c base D cA cc nL own) {n o : Nat} {i : Int32} (ho : h.1[o]? = some (0, n)) (hin : jx_in i n) (hd : decode cc pc = .ok (.iaload, 1)) (kk : jx_Go p l e R s m args below meth c base D cA O nL Q cells slots (pc + 1) ls (.int (h.2.2.2 o i.toNatClampNeg) :: st) h) : jx_Go p l e R s m args below meth c base D cA O nL Q cells slots pc ls (.int i :: .ref o :: st) h := fun H locs lsA hP hz hS hL =>
  va_iald C.1 C.2.1 C.2.2.2.2.2.1.1 hP o 0 (by rw [jx_ws_get (jx_lt ho), jx_e_arr ho (by decide)]) rfl hin hd (kk H locs lsA hP hz hS hL)
theorem jx_baload (C : jx_Cx p s m args meth c base D cA cc nL own) {n o : Nat} {i : Int32} (ho : h.1[o]? = some (1, n)) (hin : jx_in i n) (hd : decode cc pc = .ok (.baload, 1)) (kk : jx_Go p l e R s m args below meth c base D cA O nL Q cells slots (pc + 1) ls (.int (h.2.2.2 o i.toNatClampNeg) :: st) h) : jx_Go p l e R s m args below meth c base D cA O nL Q cells slots pc ls (.int i :: .ref o :: st) h := fun H locs lsA hP hz hS hL =>
  va_bald C.1 C.2.1 C.2.2.2.2.2.1.1 hP o 1 (by rw [jx_ws_get (jx_lt ho), jx_e_arr ho (by decide)]) rfl hin hd (kk H locs lsA hP hz hS hL)
theorem jx_zaload (C : jx_Cx p s m args meth c base D cA cc nL own) {n o : Nat} {i : Int32} (ho : h.1[o]? = some (2, n)) (hin : jx_in i n) (hd : decode cc pc = .ok (.baload, 1)) (kk : jx_Go p l e R s m args below meth c base D cA O nL Q cells slots (pc + 1) ls (.int (h.2.2.2 o i.toNatClampNeg) :: st) h) : jx_Go p l e R s m args below meth c base D cA O nL Q cells slots pc ls (.int i :: .ref o :: st) h := fun H locs lsA hP hz hS hL =>
  va_zald C.1 C.2.1 C.2.2.2.2.2.1.1 hP o 2 (by rw [jx_ws_get (jx_lt ho), jx_e_arr ho (by decide)]) rfl hin hd (kk H locs lsA hP hz hS hL)
theorem jx_iastore (C : jx_Cx p s m args meth c base D cA cc nL own) {n o : Nat} {i v : Int32} (ho : h.1[o]? = some (0, n)) (hin : jx_in i n) (hd : decode cc pc = .ok (.iastore, 1)) (kk : jx_Go p l e R s m args below meth c base D cA O nL Q cells slots (pc + 1) ls st (h.1, h.2.1, h.2.2.1, jx_up2 h.2.2.2 o i.toNatClampNeg v)) : jx_Go p l e R s m args below meth c base D cA O nL Q cells slots pc ls (.int v :: .int i :: .ref o :: st) h := fun H locs lsA hP hz hS hL => by
  have ha : (jx_ws base cA O h)[o]? = some (base + o, .inl (cA 0, n, .inl (h.2.2.2 o))) := by rw [jx_ws_get (jx_lt ho), jx_e_arr ho (by decide)]
  refine W.iast C.1 C.2.1 (hP o _ ha) ((C.2.2.2.2.2.1.1.2 0 _ rfl).1 n (fun j => .int (h.2.2.2 o j))) (fun q => by cases q) (by show ¬ (i < 0 ∨ (arrV _ _ _).slots.size ≤ _); rw [arrV_size]; exact hin) rfl rfl hd fun H1 e1 z1 oq => ?_
  refine kk H1 _ lsA ?_ (by rw [z1, hz]) (hS.put z1 oq (Nat.le_add_right _ _)) hL
  refine jx_P_set hP rfl (jx_lt ho) (fun j hj => jx_e_congr rfl ?_ (fun _ _ => rfl) (fun _ _ => rfl)) ?_ oq
  · funext q
    simp [jx_up2, hj]
  · rw [jx_e_arr (h := (h.1, h.2.1, h.2.2.1, jx_up2 h.2.2.2 o i.toNatClampNeg v)) ho (by decide)]
    show H1[base + o]? = some (vp_cell _ _)
    rw [e1, vp_cell_i, vp_cell_i, arrV_store]
    congr 2
    funext q
    by_cases hq : q = i.toNatClampNeg
    · subst hq
      simp [updV, jx_up2, vp_nar, narrow]
    · simp [updV, jx_up2, hq]
theorem jx_bastore (C : jx_Cx p s m args meth c base D cA cc nL own) {n o : Nat} {i v : Int32} (ho : h.1[o]? = some (1, n)) (hin : jx_in i n) (hd : decode cc pc = .ok (.bastore, 1)) (kk : jx_Go p l e R s m args below meth c base D cA O nL Q cells slots (pc + 1) ls st (h.1, h.2.1, h.2.2.1, jx_up2 h.2.2.2 o i.toNatClampNeg v.toInt8.toInt32)) : jx_Go p l e R s m args below meth c base D cA O nL Q cells slots pc ls (.int v :: .int i :: .ref o :: st) h := fun H locs lsA hP hz hS hL => by
  have ha : (jx_ws base cA O h)[o]? = some (base + o, .inl (cA 1, n, .inl (h.2.2.2 o))) := by rw [jx_ws_get (jx_lt ho), jx_e_arr ho (by decide)]
  refine W.bast C.1 C.2.1 (hP o _ ha) ((C.2.2.2.2.2.1.1.2 1 _ rfl).1 n (fun j => .int (h.2.2.2 o j))) (fun q => by cases q) (by show ¬ (i < 0 ∨ (arrV _ _ _).slots.size ≤ _); rw [arrV_size]; exact hin) rfl rfl hd fun H1 e1 z1 oq => ?_
  refine kk H1 _ lsA ?_ (by rw [z1, hz]) (hS.put z1 oq (Nat.le_add_right _ _)) hL
  refine jx_P_set hP rfl (jx_lt ho) (fun j hj => jx_e_congr rfl ?_ (fun _ _ => rfl) (fun _ _ => rfl)) ?_ oq
  · funext q
    simp [jx_up2, hj]
  · rw [jx_e_arr (h := (h.1, h.2.1, h.2.2.1, jx_up2 h.2.2.2 o i.toNatClampNeg v.toInt8.toInt32)) ho (by decide)]
    show H1[base + o]? = some (vp_cell _ _)
    rw [e1, vp_cell_i, vp_cell_i, arrV_store]
    congr 2
    funext q
    by_cases hq : q = i.toNatClampNeg
    · subst hq
      simp [updV, jx_up2, vp_nar, narrow]
    · simp [updV, jx_up2, hq]
theorem jx_zastore (C : jx_Cx p s m args meth c base D cA cc nL own) {n o : Nat} {i v : Int32} (ho : h.1[o]? = some (2, n)) (hin : jx_in i n) (hd : decode cc pc = .ok (.bastore, 1)) (kk : jx_Go p l e R s m args below meth c base D cA O nL Q cells slots (pc + 1) ls st (h.1, h.2.1, h.2.2.1, jx_up2 h.2.2.2 o i.toNatClampNeg (v &&& 1))) : jx_Go p l e R s m args below meth c base D cA O nL Q cells slots pc ls (.int v :: .int i :: .ref o :: st) h := fun H locs lsA hP hz hS hL => by
  have ha : (jx_ws base cA O h)[o]? = some (base + o, .inl (cA 2, n, .inl (h.2.2.2 o))) := by rw [jx_ws_get (jx_lt ho), jx_e_arr ho (by decide)]
  refine W.zast C.1 C.2.1 (hP o _ ha) ((C.2.2.2.2.2.1.1.2 2 _ rfl).1 n (fun j => .int (h.2.2.2 o j))) (fun q => by cases q) (by show ¬ (i < 0 ∨ (arrV _ _ _).slots.size ≤ _); rw [arrV_size]; exact hin) rfl rfl hd fun H1 e1 z1 oq => ?_
  refine kk H1 _ lsA ?_ (by rw [z1, hz]) (hS.put z1 oq (Nat.le_add_right _ _)) hL
  refine jx_P_set hP rfl (jx_lt ho) (fun j hj => jx_e_congr rfl ?_ (fun _ _ => rfl) (fun _ _ => rfl)) ?_ oq
  · funext q
    simp [jx_up2, hj]
  · rw [jx_e_arr (h := (h.1, h.2.1, h.2.2.1, jx_up2 h.2.2.2 o i.toNatClampNeg (v &&& 1))) ho (by decide)]
    show H1[base + o]? = some (vp_cell _ _)
    rw [e1, vp_cell_i, vp_cell_i, arrV_store]
    congr 2
    funext q
    by_cases hq : q = i.toNatClampNeg
    · subst hq
      simp [updV, jx_up2, vp_nar, narrow]
    · simp [updV, jx_up2, hq]
theorem jx_aaload (C : jx_Cx p s m args meth c base D cA cc nL own) {n o r : Nat} {i : Int32} (ho : h.1[o]? = some (4, n)) (hin : jx_in i n) (hn : n ≤ 64) (hv : h.2.1 (64 * o + i.toNatClampNeg) = .ref r) (hd : decode cc pc = .ok (.aaload, 1)) (kk : jx_Go p l e R s m args below meth c base D cA O nL Q cells slots (pc + 1) ls (.ref r :: st) h) : jx_Go p l e R s m args below meth c base D cA O nL Q cells slots pc ls (.int i :: .ref o :: st) h := fun H locs lsA hP hz hS hL => by
  have ha : (jx_ws base cA O h)[o]? = some (base + o, .inl (cA 4, n, .inr (.inr (.inr (.inr (fun j => if j < 64 then jx_oq base (h.2.1 (64 * o + j)) else none)))))) := by rw [jx_ws_get (jx_lt ho), jx_e_q ho]
  refine va_aldq (C := jx_SC) C.1 C.2.1 C.2.2.2.2.2.1.1 hP o 3 ha rfl hin hd ?_
  have hlt : i.toNatClampNeg < n := Nat.not_le.mp fun q => hin (Or.inr q)
  have h64 : i.toNatClampNeg < 64 := by omega
  simp only [h64, if_true, hv, jx_oq, va_rf]
  exact kk H locs lsA hP hz hS hL
theorem jx_aastore (C : jx_Cx p s m args meth c base D cA cc nL own) {n o r : Nat} {i : Int32} (ho : h.1[o]? = some (4, n)) (hin : jx_in i n) (hn : n ≤ 64) (hr : h.1[r]? = some (10 + 8, jx_N 8)) (hd : decode cc pc = .ok (.aastore, 1)) (kk : jx_Go p l e R s m args below meth c base D cA O nL Q cells slots (pc + 1) ls st (h.1, jx_up h.2.1 (64 * o + i.toNatClampNeg) (.ref r), h.2.2.1, h.2.2.2)) : jx_Go p l e R s m args below meth c base D cA O nL Q cells slots pc ls (.ref r :: .int i :: .ref o :: st) h := fun H locs lsA hP hz hS hL => by
  have ha : (jx_ws base cA O h)[o]? = some (base + o, .inl (cA 4, n, .inr (.inr (.inr (.inr (fun j => if j < 64 then jx_oq base (h.2.1 (64 * o + j)) else none)))))) := by rw [jx_ws_get (jx_lt ho), jx_e_q ho]
  have hK := C.2.2.2.2.2.1.1
  have hlt : i.toNatClampNeg < n := Nat.not_le.mp fun q => hin (Or.inr q)
  have h64 : i.toNatClampNeg < 64 := by omega
  have h0 : ¬ i < 0 := fun q => hin (Or.inl q)
  obtain ⟨T, hT⟩ := jx_cls (c := 8) (by decide)
  obtain ⟨r', hr', cellV, g1, g2, g3, -⟩ := hP r _ (jx_obj_at hr)
  have hcls := (hK.1 8 _ hT).2
  obtain ⟨kA, comp, k1, k2, k3, -⟩ := (hK.2 3 _ rfl).2
  have hcomp : comp = D.1 8 := Option.some.inj (k3.symm.trans hcls.1)
  subst hcomp
  obtain ⟨kC, hkC, -⟩ := hcls.2
  refine W.aast C.1 C.2.1 (hP o _ ha) (fun q h => by cases h) (fun h => by cases h) k1 k2 rfl hkC ⟨h0, by show _ < (arrV _ _ _).slots.size; rw [arrV_size]; exact hlt⟩ g1 (fun q h => by rw [g3] at h; cases h) (by rw [g2]; exact hkC) (by rw [g2]; exact va_assign hcls) rfl rfl hd fun H1 e1 z1 oq => ?_
  refine kk H1 _ lsA ?_ (by rw [z1, hz]) (hS.put z1 oq (Nat.le_add_right _ _)) hL
  refine jx_P_set hP rfl (jx_lt ho) (fun j hj => jx_e_congr rfl rfl (fun k hk => ?_) (fun _ _ => rfl)) ?_ oq
  · have hne : ¬ 64 * j + k = 64 * o + i.toNatClampNeg := by omega
    simp [jx_up, hne]
  · rw [jx_e_q (h := (h.1, jx_up h.2.1 (64 * o + i.toNatClampNeg) (.ref r), h.2.2.1, h.2.2.2)) ho]
    show H1[base + o]? = some (vp_cell _ _)
    rw [e1, vp_cell_q, vp_cell_q, arrV_store]
    congr 2
    funext q
    by_cases hq : q = i.toNatClampNeg
    · subst hq
      simp [updV, jx_up, jx_oq, va_rf, h64]
    · simp [updV, jx_up, hq]
end JXP
