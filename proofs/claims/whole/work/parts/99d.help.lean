/-! ===== the law's helpers: they catch what the class throws ===== -/
theorem nx_ofWH {l : Launch} {y : MethodName} {ws ws' : List Cond} {rm : Room} {Pc : Array Value → State → Prop} {Qc : Array Value → State → Outcome → State → Prop} {mc ms : Nat} {free : Addr → Prop} {cc : ByteArray} {maxL : Nat} {ret : Option FieldType} {hh : List (Nat × Nat × Nat × Nat)}
    (hy : plainName y.cls = true) (hw : ws = Cond.codeWith y cc maxL ret hh :: ws')
    (body : ∀ p e s m args below meth c s₁, BodyLoose p l y (headSpec ws rm) cc maxL ret e s m args below meth c s₁ → c.maxLocals = maxL → Pc args s →
      W p l e (headSpec ws rm).room s m args below meth c s.heap [] 0 0 (MQ below Qc args s mc ms free) (entryFrame m args maxL)) : Met l y ws rm Pc Qc mc ms free := by
  refine MetFree.of_bodyS (code := cc) (maxLocals := maxL) (ret := ret) hy ?_ ?_
  · intro args s m h hn
    obtain ⟨m9, meth, c, hn9, h1, h2, h3, h4, -, h5, h6, -⟩ := Cond.codeWith_spec (atoms_spec (ws := ws) h _ (by rw [hw]; exact List.mem_cons_self))
    cases hn.symm.trans hn9
    exact ⟨meth, c, h1, h2, h3, h4, h5, h6⟩
  · intro p e s m args below meth c s₁ B hml hP _
    have hh0 : s₁.heap = s.heap := by rw [B.state]; rfl
    obtain ⟨t, a1, o, b1, b2, b3⟩ := body p e s m args below meth c s₁ B hml hP s₁ hh0 (Stand.of_body B)
    exact ⟨t, o, a1, b1, b2, b3⟩
section LHA
variable {p : Program} {l : Launch} {e : Env} {R : Room} {s : State} {m : MethodId} {args : Array Value} {below : List Frame} {meth : Method} {c : Code} {base : Nat} {D : va_G} {cA : Nat → ClassId} {O : Nat → va_E} {cc : ByteArray} {nL : Nat} {own : String} {Q : State → Prop} {cells slots pc : Nat} {h h1 : jx_H} {H : Heap} {locs : List Loc} {lsA : Array Slot} {rest : List Value}
theorem lc_callB2 {k0 idx d mc ms : Nat} {i1 : jx_M} (C : lc_C p s m args c base D cA cc nL own) (hi : jx_okM k0 i1) (hw : (Cond.methodLink own idx i1.1).before args s = true) (hfr : d + 2 ≤ R.frames) (hlo : 64 * (d + 2) ≤ R.locals) {n0 : Nat} (hn0 : n0 = (if i1.2.2.2.2.1 = 2 then i1.2.2.2.2.2.1 else i1.2.2.2.2.2.1 - 1)) :
    CallB R s args own idx i1.1 i1.2.1 i1.2.2.1 i1.2.2.2.1 (jx_wsM i1) (jx_rm d mc ms) mc ms n0 := by
  have hts := C.2.2.2.2.1
  have h40 := hi.2.2.2.2.2.2.2.2.2.2.1
  refine callB_of (Ts := lw_g) n0 hts (jx_good hi) rfl rfl rfl (hts _ hi.2.2.2.2.2.2.1) hw ⟨hi.2.2.2.1.1, hi.2.2.2.1.2, ?_⟩ ⟨hfr, ?_⟩
  · rw [hn0]; exact hi.2.2.2.2.1
  · show 8 + (i1.2.2.1 + 11) + 64 * (d + 1) ≤ R.locals
    omega
theorem lc_callG {k0 idx d o : Nat} {i1 : jx_M} {as : List Value} {v : Option Value} (C : lc_C p s m args c base D cA cc nL own) (hok : jx_okM k0 i1) (hk : i1.2.2.2.2.1 = 0) (hM : jx_MetM l base D cA O d i1 (.ref o :: as) h v h1 []) (hlen : as.length + 1 = i1.2.2.2.2.2.1) (ho : h.1[o]? = some (10 + i1.2.2.2.2.2.2.1, jx_N i1.2.2.2.2.2.2.1))
    (hw : (Cond.methodLink own idx i1.1).before args s = true) (hd : decode cc pc = .ok (.invokevirtual idx, 3)) (hfr : d + 2 ≤ R.frames) (hlo : 64 * (d + 2) ≤ R.locals) (hc : cells ≤ R.cells) (hs : slots ≤ R.slots) (hls : lsA.size = nL) (hr : (rest.map fun v => v.category).sum ≤ 8)
    (hP : va_P D jx_cl (jx_ws base cA O h) H) (hz : H.size = base + h.1.length + jx_G O) (hS : va_S (fun q => base ≤ q) s.heap H locs) {st0 : List Value} (hst : st0 = (as.map (jx_V base)).reverse ++ .ref (base + o) :: rest)
    (kk : ∀ (H1 : Heap) (locs1 : List Loc), va_P D jx_cl (jx_ws base cA O h1) H1 → H1.size = base + h1.1.length + jx_G O → va_S (fun q => base ≤ q) s.heap H1 locs1 → W p l e R s m args below meth c H1 locs1 cells slots Q (F0 m (pc + 3) lsA ((v.map (jx_V base)).toList ++ rest))) : W p l e R s m args below meth c H locs cells slots Q (F0 m pc lsA st0) := by
  obtain ⟨hi1, hi2, hi3⟩ := hok.2.2.2.2.2.2.2.1 hk
  refine lc_after (mc := 0) (ms := 0) (va_runV (C := i1.1.cls) (b := base + o) (As := as.map (jx_V base)) (n := as.length) (index := idx) (own := own) (Ts := lw_g) (cc := cc) (nL := nL) ⟨C.1, C.2.1, C.2.2.1, C.2.2.2.1, C.2.2.2.2.1⟩ hM ⟨lc_callB2 C hok hw hfr hlo (by rw [if_neg (by omega)]; omega), C.2.2.2.2.1 _ hi1, C.2.2.2.2.1 _ hi2⟩ ⟨jx_blind, ?_, fun U hU hW => ⟨rfl, by rw [hU]; exact hP, jx_KK.moved hW.alike C.2.2.2.2.2.1, by rw [hU]; exact hz⟩⟩ rfl (by rw [List.length_map]) hls hst ?_ hd ⟨hc, hs⟩) hS kk
  · obtain ⟨T, hT⟩ := jx_cls hi3
    rw [hok.2.1]
    exact va_recv C.2.2.2.2.2.1.1 hP hT (jx_obj_at ho)
  · show 2 * 0 + _ ≤ 8
    omega
theorem nx_blind {sa : Nat → Nat} {as : List Value} : FrameBlind (va_Pc as (nx_Bd base D cA O h sa)) := fun a U g mk q => ⟨q.1, ⟨q.2.1.1, jx_KK.moved (u := U) (U := U.calling g mk a) (Vm.Alike.refl U.vm) q.2.1.2.1, q.2.1.2.2⟩, nx_P.warm (s := U) (U := U.calling g mk a) (State.WarmedH.refl U) (fun _ _ _ => rfl) q.2.2⟩
theorem lc_callX {k0 idx o : Nat} {i1 : jx_M} {as : List Value} {sa : Nat → Nat} (C : lc_C p s m args c base D cA cc nL own) (hok : jx_okM k0 i1) (hk : i1.2.2.2.2.1 = 0) (hM : nx_Met l base D cA O i1 (.ref o :: as) h sa) (hlen : as.length + 1 = i1.2.2.2.2.2.1) (ho : h.1[o]? = some (10 + i1.2.2.2.2.2.2.1, jx_N i1.2.2.2.2.2.2.1)) (hN : nx_P base sa s)
    (hw : (Cond.methodLink own idx i1.1).before args s = true) (hd : decode cc pc = .ok (.invokevirtual idx, 3)) (hfr : 8 ≤ R.frames) (hlo : 64 * 8 ≤ R.locals) (hc : cells + 1 ≤ R.cells) (hs : slots + 6 ≤ R.slots) (hls : lsA.size = nL) (hr : (rest.map fun v => v.category).sum ≤ 8)
    (hP : va_P D jx_cl (jx_ws base cA O h) H) (hz : H.size = base + h.1.length + jx_G O) (hS : va_S (fun q => base ≤ q) s.heap H locs) {st0 : List Value} (hst : st0 = (as.map (jx_V base)).reverse ++ .ref (base + o) :: rest)
    (kx : ∀ (ce : Cell) (q9 : Addr) (H1 : Heap) (locs1 : List Loc), va_P D jx_cl (jx_ws base cA O h) H1 → base + h.1.length + jx_G O ≤ H1.size → va_S (fun q => base ≤ q) s.heap H1 locs1 → H1[q9]? = some ce → ce.vm = .none → s.vm.findClass nx_N = some ce.cls → vx_W p l e R s m args below meth c H1 locs1 (cells + 1) (slots + 6) Q (F0 m pc lsA rest) q9) : W p l e R s m args below meth c H locs cells slots Q (F0 m pc lsA st0) := by
  obtain ⟨hi1, hi2, hi3⟩ := hok.2.2.2.2.2.2.2.1 hk
  refine vx_calli (mc := 1) (ms := 6) (rest := rest) (A0 := fun q => base ≤ q) (H0 := s.heap) (vx_runV (C := i1.1.cls) (b := base + o) (As := as.map (jx_V base)) (n := as.length) (index := idx) (own := own) (Ts := lw_g) (cc := cc) (nL := nL) ⟨C.1, C.2.1, C.2.2.1, C.2.2.2.1, C.2.2.2.2.1⟩ hM ⟨lc_callB2 C hok hw hfr hlo (by rw [if_neg (by omega)]; omega), C.2.2.2.2.1 _ hi1, C.2.2.2.2.1 _ hi2⟩ ⟨nx_blind, ?_, fun U hU hW => ⟨rfl, ⟨by rw [hU]; exact hP, jx_KK.moved hW.alike C.2.2.2.2.2.1, by rw [hU]; exact hz⟩, nx_P.warm hW (fun a h1 h2 => by rw [hU]; exact hS.2.1 a h1 h2) hN⟩⟩ rfl (by rw [List.length_map]) hls hst ?_ hd ⟨hc, hs⟩) hS (fun _ _ z => z) (fun _ z => z) (fun _ _ z => z) ?_ ?_
  · obtain ⟨T, hT⟩ := jx_cls hi3
    rw [hok.2.1]
    exact va_recv C.2.2.2.2.2.1.1 hP hT (jx_obj_at ho)
  · show 2 * 0 + _ ≤ 8
    omega
  · intro E ce q9 u t H1 locs1 ht _ _ hB hz1 hk1 hS1 hce hcv hcl
    obtain ⟨rfl, hP1, hz2⟩ := hB
    rw [ht] at hP1 hz2
    exact kx ce q9 H1 locs1 hP1 hz2 hS1 hce hcv hcl
  · intro r u t H1 locs1 _ _ hpost
    exact hpost.elim
end LHA
theorem lh_last {p : Program} {l : Launch} {e : Env} {R : Room} {s : State} {m : MethodId} {args : Array Value} {below : List Frame} {meth : Method} {c : Code} {H0 H : Heap} {locs : List Loc} {cells slots pc a : Nat} {Q : State → Prop} {ls : Array Slot} {rest : List Value} {cc : ByteArray} {D : va_G} {cl : List vw_C} {tys : List (ClassId × FieldType)} {ws : va_W} {A : Nat → Prop} (hexec : p.tables.exec = Jvm.exec) (hb : c.code = cc) (hK : va_K D cl tys s) (hP : va_P D cl ws H) (hD : va_D A ws) (hS : va_S A H0 H locs) (q0 t0 : Nat) {cA : ClassId} {n : Nat} {f : Nat → Int64} (ha : ws[q0]? = some (a, .inl (cA, n, .inr (.inl f)))) (ht : tys[t0]? = some (cA, .long)) {i : Int32} {x : Int64} (hin : vp_in i n) (hdg : decode cc pc = .ok (.lastore, 1))
    (kk : ∀ (H1 : Heap) (locs1 : List Loc), H1.size = H.size → va_P D cl (ws.set q0 (a, .inl (cA, n, .inr (.inl (vp_updL f i.toNatClampNeg x))))) H1 → va_S A H0 H1 locs1 → W p l e R s m args below meth c H1 locs1 cells slots Q (F0 m (pc + 1) ls rest)) : W p l e R s m args below meth c H locs cells slots Q (F0 m pc ls (.long x :: .int i :: .ref a :: rest)) := by
  refine W.last hexec hb (hP q0 _ ha) ((hK.2 t0 _ ht).1 n (fun j => .long (f j))) (fun q => by cases q) (by show ¬ (i < 0 ∨ (arrV _ _ _).slots.size ≤ _); rw [arrV_size]; exact hin) rfl rfl hdg fun H1 e z oq => ?_
  refine kk H1 _ z (hP.set hD ha ?_ oq) (hS.put z oq (hD.2 q0 _ ha))
  show H1[a]? = some (vp_cell _ _)
  rw [e]
  rw [vp_cell_l, vp_cell_l, arrV_store]
  congr 2
  funext q
  by_cases hq : q = i.toNatClampNeg
  · subst hq
    simp [updV, vp_updL]
  · simp [updV, vp_updL, hq]
/-! the world with the long[] of the law at its end -/
def lh_O (cL : ClassId) (f : Nat → Int64) (g : Nat) : Nat → va_E := fun i => if i = 95 then .inl (cL, 1, .inr (.inl f)) else if i = 1000000 then .inr (g, []) else .inr (0, [])
theorem lh_G (cL : ClassId) (f : Nat → Int64) (g : Nat) : jx_G (lh_O cL f g) = g := rfl
theorem lh_e {base : Nat} {cA : Nat → ClassId} {cL : ClassId} {f f' : Nat → Int64} {g g' : Nat} {h : jx_H} {i : Nat} (hi : i < 95) : jx_e base cA (lh_O cL f g) h i = jx_e base cA (lh_O cL f' g') h i := by
  have e1 : lh_O cL f g i = lh_O cL f' g' i := by
    unfold lh_O
    rw [if_neg (by omega), if_neg (by omega), if_neg (by omega), if_neg (by omega)]
  unfold jx_e
  rw [e1]
theorem lh_e95 {base : Nat} {cA : Nat → ClassId} {cL : ClassId} {f : Nat → Int64} {g : Nat} {h : jx_H} (h95 : h.1[95]? = some (3, 1)) : jx_e base cA (lh_O cL f g) h 95 = .inl (cL, 1, .inr (.inl f)) := by
  unfold jx_e
  rw [h95]
  rfl
theorem lh_at {base : Nat} {cA : Nat → ClassId} {cL : ClassId} {f : Nat → Int64} {g : Nat} {h : jx_H} (h95 : h.1[95]? = some (3, 1)) : (jx_ws base cA (lh_O cL f g) h)[95]? = some (base + 95, .inl (cL, 1, .inr (.inl f))) := by
  have hlt : 95 < h.1.length := (List.getElem?_eq_some_iff.mp h95).1
  rw [jx_ws_get hlt, lh_e95 h95]
theorem lh_set {base : Nat} {cA : Nat → ClassId} {cL : ClassId} {f f' : Nat → Int64} {g : Nat} {h : jx_H} (h95 : h.1[95]? = some (3, 1)) (hln : h.1.length = 96) : (jx_ws base cA (lh_O cL f g) h).set 95 (base + 95, .inl (cL, 1, .inr (.inl f'))) = jx_ws base cA (lh_O cL f' g) h := by
  have l1 : ∀ O, (jx_ws base cA O h).length = 96 := fun O => by unfold jx_ws; rw [List.length_map, List.length_range, hln]
  refine List.ext_getElem? fun i => ?_
  rw [List.getElem?_set]
  by_cases hi : 95 = i
  · subst hi
    rw [if_pos rfl, l1, if_pos (by decide), lh_at h95]
  · rw [if_neg hi]
    by_cases h2 : i < 96
    · rw [jx_ws_get (by omega), jx_ws_get (by omega), lh_e (by omega)]
    · rw [List.getElem?_eq_none (by rw [l1]; omega), List.getElem?_eq_none (by rw [l1]; omega)]
theorem lh_ws {base : Nat} {cA : Nat → ClassId} {cL : ClassId} {f : Nat → Int64} {g g' : Nat} {h : jx_H} (h95 : h.1[95]? = some (3, 1)) (hln : h.1.length = 96) : jx_ws base cA (lh_O cL f g) h = jx_ws base cA (lh_O cL f g') h := by
  have l1 : ∀ O, (jx_ws base cA O h).length = 96 := fun O => by unfold jx_ws; rw [List.length_map, List.length_range, hln]
  refine List.ext_getElem? fun i => ?_
  by_cases h2 : i < 96
  · rw [jx_ws_get (by omega), jx_ws_get (by omega)]
    by_cases h3 : i = 95
    · subst h3
      rw [lh_e95 h95, lh_e95 h95]
    · rw [lh_e (by omega)]
  · rw [List.getElem?_eq_none (by rw [l1]; omega), List.getElem?_eq_none (by rw [l1]; omega)]
def lh_Bd (base : Nat) (D : va_G) (cA : Nat → ClassId) (cL : ClassId) (f : Nat → Int64) (g : Nat) (h : jx_H) (sa : Nat → Nat) (U : State) : Prop := nx_Bd base D cA (lh_O cL f g) h sa U ∧ va_K D jx_cl [(cL, .long)] U
def lh_Q (base : Nat) (D : va_G) (cA : Nat → ClassId) (cL : ClassId) (h : jx_H) (good : Prop) (r : Int32) : Array Value → State → Outcome → State → Prop :=
  va_Qi (fun k (u : (Nat → Int64) × Nat) => (good ∧ k = 0 ∧ u.1 0 = r.toInt64) ∨ (¬ good ∧ k = 1)) (fun u t => jx_Bd base D cA (lh_O cL u.1 u.2) h t) (fun q => base ≤ q)
theorem lh_blind {base : Nat} {D : va_G} {cA : Nat → ClassId} {cL : ClassId} {f : Nat → Int64} {g : Nat} {h : jx_H} {sa : Nat → Nat} {as : List Value} : FrameBlind (va_Pc as (lh_Bd base D cA cL f g h sa)) := fun a U g mk q => ⟨q.1, (nx_blind a U g mk ⟨q.1, q.2.1⟩).2, va_K.moved (u := U) (U := U.calling g mk a) (Vm.Alike.refl U.vm) q.2.2⟩
def lh_c : Cond := .classLink "OfDifferentMindsLaw" 13 nx_N
theorem lh_c_in : lh_c ∈ lw_g := by decide +kernel
theorem lh_cast {args : Array Value} {s : State} {base : Nat} {sa : Nat → Nat} (h : nx_P base sa s) : (Cond.castable nx_N nx_N).before args s = true := va_Nw.use rfl (h.1 _ (by simp [nx_B]))
def lh_y_place : MethodName := ⟨"OfDifferentMindsLaw", "place", "(LOfDifferentMinds;II[J)I"⟩
def lh_w_place : List Cond := Cond.codeWith lh_y_place method_3_code 5 (some .int) [(0, 10, 13, 13)] :: lw_g
set_option maxHeartbeats 4000000 in
theorem lh_place {l : Launch} (hl : l.stackTraces = false) {base : Nat} {D : va_G} {cA : Nat → ClassId} {cL : ClassId} {f : Nat → Int64} {g : Nat} {h : jx_H} {sa : Nat → Nat} {σ τ : jT} (hL : lsW h σ τ) (h95 : h.1[95]? = some (3, 1)) (hln : h.1.length = 96) {x y r : Int32} {good : Prop} (hgd : good = ((∃ b, f_X3_hasPlace x σ = some (b, σ) ∧ ¬ b = 0) ∧ ¬ y < 0 ∧ y ≤ 5)) (hres : good → f_X10_placeGood x y σ = some (r, σ)) :
    Met l lh_y_place lh_w_place (jx_rm 8 1 6) (va_Pc [.ref base, .int x, .int y, .ref (base + 95)] (lh_Bd base D cA cL f g h sa)) (lh_Q base D cA cL h good r) 1 6 (fun q => base ≤ q) := by
  refine nx_ofWH (cc := method_3_code) (maxL := 5) (ret := some .int) (hh := [(0, 10, 13, 13)]) (by decide) rfl ?_
  intro p e s m args below meth c s₁ B hml hv
  obtain ⟨rfl, ⟨⟨hP, hK, hz⟩, hN⟩, hKL⟩ := hv
  have hts := atoms_spec (ws := lh_w_place) B.pre
  have hts2 : ∀ w ∈ lw_g, w.before _ s = true := fun w hw => hts w (List.mem_cons_of_mem _ hw)
  have htab := vx_table (x := lh_y_place) B (hts _ List.mem_cons_self)
  have hown : s.vm.findClass "OfDifferentMindsLaw" = some m.cls := findClass_of_methodNamed B.named
  have hx := B.exec
  have hb := B.bytes
  have hr := B.returns
  have C : lc_C p s m _ c base D cA method_3_code 5 "OfDifferentMindsLaw" := ⟨hx, hb, hml, hown, hts2, hK, by rw [hz]; omega⟩
  have hS : va_S (fun q => base ≤ q) s.heap s.heap [] := va_S.rf
  have h0 : h.1[0]? = some (20, 14) := hL.1 0 (by decide)
  have hpre := nx_place hL x y
  rw [← hgd] at hpre
  have hlk : (Cond.methodLink "OfDifferentMindsLaw" 7 jm_i1135.1).before _ s = true := hts2 _ (by decide +kernel)
  rw [lg_entry_eq]
  have hl9 := lv_entry [.ref base, .int x, .int y, .ref (base + 95)] (n := 5) (Nat.le_of_ble_eq_true rfl)
  generalize (lg_sl [.ref base, .int x, .int y, .ref (base + 95)] ++ List.replicate (5 - (lg_sl [.ref base, .int x, .int y, .ref (base + 95)]).length) Slot.unset).toArray = ls at hl9 ⊢
  have hl9 : lv_has ls 5 [(0, .ref base), (1, .int x), (2, .int y), (3, .ref (base + 95))] := hl9
  refine lv_aload_n (k := 3) hx hb (by decide +kernel) rfl (lv_at hl9 3 rfl) ?_
  refine lv_iconst (n := 0) (v := 0) hx hb (by decide +kernel) (by decide) ?_
  refine lv_aload_n (k := 0) hx hb (by decide +kernel) rfl (lv_at hl9 0 rfl) ?_
  refine lv_iload_n (k := 1) hx hb (by decide +kernel) rfl (lv_at hl9 1 rfl) ?_
  refine lv_iload_n (k := 2) hx hb (by decide +kernel) rfl (lv_at hl9 2 rfl) ?_
  by_cases hg : good
  · have hEx := t_X10_placeGood (lsC_ok hL) (d := 3) (Q := fun v' h' => v' = some (.int r) ∧ h' = h) ⟨(r, σ), hres hg, rfl, lsC_h hL⟩
    rw [lsC_h hL] at hEx
    refine lc_callG (o := 0) (as := [.int x, .int y]) (rest := [.int 0, .ref (base + 95)]) C jm_ok1135 rfl (nx_good hpre hg jm_ok1135 rfl rfl rfl hEx rfl) rfl h0 hlk (by decide +kernel) (by decide) (by decide) (by decide) (by decide) hl9.1 (Nat.le_of_ble_eq_true rfl) hP hz hS rfl ?_
    intro H1 locs1 hP1 hz1 hS1
    refine lv_i2l (v := r.toInt64) hx hb (by decide +kernel) rfl ?_
    refine lh_last hx hb hKL hP1 jx_ws_D hS1 95 0 (lh_at h95) rfl (i := 0) (by unfold vp_in; decide) (by decide +kernel) ?_
    intro H2 locs2 hz2 hP2 hS2
    rw [lh_set h95 hln] at hP2
    refine lv_goto (off := 7) (tgt := 17) hx hb (by decide +kernel) (by decide) ?_
    refine lv_iconst (n := 0) (v := 0) hx hb (by decide +kernel) (by decide) ?_
    refine W.widen (k := 1) (n := 6) (by decide) (by decide) ?_
    exact W.iret (v := 0) hx hb hr (fun t ht hW => ⟨⟨0, (vp_updL f 0 r.toInt64, g), rfl, Or.inl ⟨hg, rfl, rfl⟩, by rw [ht]; exact hP2, jx_KK.moved hW.alike hK, by rw [ht, hz2]; exact hz1⟩, hS2.F ht⟩) hS2.2.2 (by decide +kernel)
  · refine lc_callX (o := 0) (as := [.int x, .int y]) (rest := [.int 0, .ref (base + 95)]) C jm_ok1135 rfl (nx_bad hl (is := 166) (tx := "no such place") (sk := 0) (k9 := 26) hpre hg jm_ok1135 rfl rfl rfl (fun U q => q.2.1) (by decide +kernel) (by decide +kernel) (Or.inl ⟨by decide +kernel, rfl⟩) (by decide +kernel) (by decide +kernel)) rfl h0 hN hlk (by decide +kernel) (by decide) (by decide) (by decide) (by decide) hl9.1 (Nat.le_of_ble_eq_true rfl) hP hz hS rfl ?_
    intro ce q9 H1 locs1 hP1 hz1 hS1 hce hcv hcl
    refine vq_catch hown ⟨0, 10, 13, 13⟩ htab (by decide) (by decide) (hts2 lh_c lh_c_in) (lh_cast hN) hce hcv hcl ?_
    refine lv_astore (lv' := [(4, .ref q9), (0, .ref base), (1, .int x), (2, .int y), (3, .ref (base + 95))]) hx hb (by decide +kernel) hl9 (by decide) rfl (fun ls hl => ?_)
    refine lv_iconst (n := 1) (v := 1) hx hb (by decide +kernel) (by decide) ?_
    exact W.iret (v := 1) hx hb hr (fun t ht hW => ⟨⟨1, (f, H1.size - base - 96), rfl, Or.inr ⟨hg, rfl⟩, by rw [ht, lh_ws (g' := g) h95 hln]; exact hP1, jx_KK.moved hW.alike hK, by rw [ht, lh_G, hln]; rw [hln] at hz1; omega⟩, hS1.F ht⟩) hS1.2.2 (by decide +kernel)
def lh_y_rider : MethodName := ⟨"OfDifferentMindsLaw", "rider", "(LOfDifferentMinds;II[J)I"⟩
def lh_w_rider : List Cond := Cond.codeWith lh_y_rider method_4_code 5 (some .int) [(0, 10, 13, 13)] :: lw_g
set_option maxHeartbeats 4000000 in
theorem lh_rider {l : Launch} (hl : l.stackTraces = false) {base : Nat} {D : va_G} {cA : Nat → ClassId} {cL : ClassId} {f : Nat → Int64} {g : Nat} {h : jx_H} {sa : Nat → Nat} {σ τ : jT} (hL : lsW h σ τ) (h95 : h.1[95]? = some (3, 1)) (hln : h.1.length = 96) {x y r : Int32} {good : Prop} (hgd : good = ((∃ b, f_X3_hasRider x σ = some (b, σ) ∧ ¬ b = 0) ∧ ¬ y < 0 ∧ y ≤ 5)) (hres : good → f_X10_riderGood x y σ = some (r, σ)) :
    Met l lh_y_rider lh_w_rider (jx_rm 8 1 6) (va_Pc [.ref base, .int x, .int y, .ref (base + 95)] (lh_Bd base D cA cL f g h sa)) (lh_Q base D cA cL h good r) 1 6 (fun q => base ≤ q) := by
  refine nx_ofWH (cc := method_4_code) (maxL := 5) (ret := some .int) (hh := [(0, 10, 13, 13)]) (by decide) rfl ?_
  intro p e s m args below meth c s₁ B hml hv
  obtain ⟨rfl, ⟨⟨hP, hK, hz⟩, hN⟩, hKL⟩ := hv
  have hts := atoms_spec (ws := lh_w_rider) B.pre
  have hts2 : ∀ w ∈ lw_g, w.before _ s = true := fun w hw => hts w (List.mem_cons_of_mem _ hw)
  have htab := vx_table (x := lh_y_rider) B (hts _ List.mem_cons_self)
  have hown : s.vm.findClass "OfDifferentMindsLaw" = some m.cls := findClass_of_methodNamed B.named
  have hx := B.exec
  have hb := B.bytes
  have hr := B.returns
  have C : lc_C p s m _ c base D cA method_4_code 5 "OfDifferentMindsLaw" := ⟨hx, hb, hml, hown, hts2, hK, by rw [hz]; omega⟩
  have hS : va_S (fun q => base ≤ q) s.heap s.heap [] := va_S.rf
  have h0 : h.1[0]? = some (20, 14) := hL.1 0 (by decide)
  have hpre := nx_rider hL x y
  rw [← hgd] at hpre
  have hlk : (Cond.methodLink "OfDifferentMindsLaw" 15 jm_i1137.1).before _ s = true := hts2 _ (by decide +kernel)
  rw [lg_entry_eq]
  have hl9 := lv_entry [.ref base, .int x, .int y, .ref (base + 95)] (n := 5) (Nat.le_of_ble_eq_true rfl)
  generalize (lg_sl [.ref base, .int x, .int y, .ref (base + 95)] ++ List.replicate (5 - (lg_sl [.ref base, .int x, .int y, .ref (base + 95)]).length) Slot.unset).toArray = ls at hl9 ⊢
  have hl9 : lv_has ls 5 [(0, .ref base), (1, .int x), (2, .int y), (3, .ref (base + 95))] := hl9
  refine lv_aload_n (k := 3) hx hb (by decide +kernel) rfl (lv_at hl9 3 rfl) ?_
  refine lv_iconst (n := 0) (v := 0) hx hb (by decide +kernel) (by decide) ?_
  refine lv_aload_n (k := 0) hx hb (by decide +kernel) rfl (lv_at hl9 0 rfl) ?_
  refine lv_iload_n (k := 1) hx hb (by decide +kernel) rfl (lv_at hl9 1 rfl) ?_
  refine lv_iload_n (k := 2) hx hb (by decide +kernel) rfl (lv_at hl9 2 rfl) ?_
  by_cases hg : good
  · have hEx := t_X10_riderGood (lsC_ok hL) (d := 2) (Q := fun v' h' => v' = some (.int r) ∧ h' = h) ⟨(r, σ), hres hg, rfl, lsC_h hL⟩
    rw [lsC_h hL] at hEx
    refine lc_callG (o := 0) (as := [.int x, .int y]) (rest := [.int 0, .ref (base + 95)]) C jm_ok1137 rfl (nx_good hpre hg jm_ok1137 rfl rfl rfl hEx rfl) rfl h0 hlk (by decide +kernel) (by decide) (by decide) (by decide) (by decide) hl9.1 (Nat.le_of_ble_eq_true rfl) hP hz hS rfl ?_
    intro H1 locs1 hP1 hz1 hS1
    refine lv_i2l (v := r.toInt64) hx hb (by decide +kernel) rfl ?_
    refine lh_last hx hb hKL hP1 jx_ws_D hS1 95 0 (lh_at h95) rfl (i := 0) (by unfold vp_in; decide) (by decide +kernel) ?_
    intro H2 locs2 hz2 hP2 hS2
    rw [lh_set h95 hln] at hP2
    refine lv_goto (off := 7) (tgt := 17) hx hb (by decide +kernel) (by decide) ?_
    refine lv_iconst (n := 0) (v := 0) hx hb (by decide +kernel) (by decide) ?_
    refine W.widen (k := 1) (n := 6) (by decide) (by decide) ?_
    exact W.iret (v := 0) hx hb hr (fun t ht hW => ⟨⟨0, (vp_updL f 0 r.toInt64, g), rfl, Or.inl ⟨hg, rfl, rfl⟩, by rw [ht]; exact hP2, jx_KK.moved hW.alike hK, by rw [ht, hz2]; exact hz1⟩, hS2.F ht⟩) hS2.2.2 (by decide +kernel)
  · refine lc_callX (o := 0) (as := [.int x, .int y]) (rest := [.int 0, .ref (base + 95)]) C jm_ok1137 rfl (nx_bad hl (is := 189) (tx := "no such rider") (sk := 1) (k9 := 26) hpre hg jm_ok1137 rfl rfl rfl (fun U q => q.2.2.1) (by decide +kernel) (by decide +kernel) (Or.inl ⟨by decide +kernel, rfl⟩) (by decide +kernel) (by decide +kernel)) rfl h0 hN hlk (by decide +kernel) (by decide) (by decide) (by decide) (by decide) hl9.1 (Nat.le_of_ble_eq_true rfl) hP hz hS rfl ?_
    intro ce q9 H1 locs1 hP1 hz1 hS1 hce hcv hcl
    refine vq_catch hown ⟨0, 10, 13, 13⟩ htab (by decide) (by decide) (hts2 lh_c lh_c_in) (lh_cast hN) hce hcv hcl ?_
    refine lv_astore (lv' := [(4, .ref q9), (0, .ref base), (1, .int x), (2, .int y), (3, .ref (base + 95))]) hx hb (by decide +kernel) hl9 (by decide) rfl (fun ls hl => ?_)
    refine lv_iconst (n := 1) (v := 1) hx hb (by decide +kernel) (by decide) ?_
    exact W.iret (v := 1) hx hb hr (fun t ht hW => ⟨⟨1, (f, H1.size - base - 96), rfl, Or.inr ⟨hg, rfl⟩, by rw [ht, lh_ws (g' := g) h95 hln]; exact hP1, jx_KK.moved hW.alike hK, by rw [ht, lh_G, hln]; rw [hln] at hz1; omega⟩, hS1.F ht⟩) hS1.2.2 (by decide +kernel)
def lh_y_row : MethodName := ⟨"OfDifferentMindsLaw", "row", "(LOfDifferentMinds;I[J)I"⟩
def lh_w_row : List Cond := Cond.codeWith lh_y_row method_5_code 4 (some .int) [(0, 9, 12, 13)] :: lw_g
set_option maxHeartbeats 4000000 in
theorem lh_row {l : Launch} (hl : l.stackTraces = false) {base : Nat} {D : va_G} {cA : Nat → ClassId} {cL : ClassId} {f : Nat → Int64} {g : Nat} {h : jx_H} {sa : Nat → Nat} {σ τ : jT} (hL : lsW h σ τ) (h95 : h.1[95]? = some (3, 1)) (hln : h.1.length = 96) {x r : Int32} {good : Prop} (hgd : good = (¬ x < 0 ∧ x < σ.1 3009)) (hres : good → f_X10_rowGood x σ = some (r, σ)) :
    Met l lh_y_row lh_w_row (jx_rm 8 1 6) (va_Pc [.ref base, .int x, .ref (base + 95)] (lh_Bd base D cA cL f g h sa)) (lh_Q base D cA cL h good r) 1 6 (fun q => base ≤ q) := by
  refine nx_ofWH (cc := method_5_code) (maxL := 4) (ret := some .int) (hh := [(0, 9, 12, 13)]) (by decide) rfl ?_
  intro p e s m args below meth c s₁ B hml hv
  obtain ⟨rfl, ⟨⟨hP, hK, hz⟩, hN⟩, hKL⟩ := hv
  have hts := atoms_spec (ws := lh_w_row) B.pre
  have hts2 : ∀ w ∈ lw_g, w.before _ s = true := fun w hw => hts w (List.mem_cons_of_mem _ hw)
  have htab := vx_table (x := lh_y_row) B (hts _ List.mem_cons_self)
  have hown : s.vm.findClass "OfDifferentMindsLaw" = some m.cls := findClass_of_methodNamed B.named
  have hx := B.exec
  have hb := B.bytes
  have hr := B.returns
  have C : lc_C p s m _ c base D cA method_5_code 4 "OfDifferentMindsLaw" := ⟨hx, hb, hml, hown, hts2, hK, by rw [hz]; omega⟩
  have hS : va_S (fun q => base ≤ q) s.heap s.heap [] := va_S.rf
  have h0 : h.1[0]? = some (20, 14) := hL.1 0 (by decide)
  have hpre := nx_row hL x
  rw [← hgd] at hpre
  have hlk : (Cond.methodLink "OfDifferentMindsLaw" 18 jm_i1198.1).before _ s = true := hts2 _ (by decide +kernel)
  rw [lg_entry_eq]
  have hl9 := lv_entry [.ref base, .int x, .ref (base + 95)] (n := 4) (Nat.le_of_ble_eq_true rfl)
  generalize (lg_sl [.ref base, .int x, .ref (base + 95)] ++ List.replicate (4 - (lg_sl [.ref base, .int x, .ref (base + 95)]).length) Slot.unset).toArray = ls at hl9 ⊢
  have hl9 : lv_has ls 4 [(0, .ref base), (1, .int x), (2, .ref (base + 95))] := hl9
  refine lv_aload_n (k := 2) hx hb (by decide +kernel) rfl (lv_at hl9 2 rfl) ?_
  refine lv_iconst (n := 0) (v := 0) hx hb (by decide +kernel) (by decide) ?_
  refine lv_aload_n (k := 0) hx hb (by decide +kernel) rfl (lv_at hl9 0 rfl) ?_
  refine lv_iload_n (k := 1) hx hb (by decide +kernel) rfl (lv_at hl9 1 rfl) ?_
  by_cases hg : good
  · have hEx := t_X10_rowGood (lsC_ok hL) (d := 5) (Q := fun v' h' => v' = some (.int r) ∧ h' = h) ⟨(r, σ), hres hg, rfl, lsC_h hL⟩
    rw [lsC_h hL] at hEx
    refine lc_callG (o := 0) (as := [.int x]) (rest := [.int 0, .ref (base + 95)]) C jm_ok1198 rfl (nx_good hpre hg jm_ok1198 rfl rfl rfl hEx rfl) rfl h0 hlk (by decide +kernel) (by decide) (by decide) (by decide) (by decide) hl9.1 (Nat.le_of_ble_eq_true rfl) hP hz hS rfl ?_
    intro H1 locs1 hP1 hz1 hS1
    refine lv_i2l (v := r.toInt64) hx hb (by decide +kernel) rfl ?_
    refine lh_last hx hb hKL hP1 jx_ws_D hS1 95 0 (lh_at h95) rfl (i := 0) (by unfold vp_in; decide) (by decide +kernel) ?_
    intro H2 locs2 hz2 hP2 hS2
    rw [lh_set h95 hln] at hP2
    refine lv_goto (off := 6) (tgt := 15) hx hb (by decide +kernel) (by decide) ?_
    refine lv_iconst (n := 0) (v := 0) hx hb (by decide +kernel) (by decide) ?_
    refine W.widen (k := 1) (n := 6) (by decide) (by decide) ?_
    exact W.iret (v := 0) hx hb hr (fun t ht hW => ⟨⟨0, (vp_updL f 0 r.toInt64, g), rfl, Or.inl ⟨hg, rfl, rfl⟩, by rw [ht]; exact hP2, jx_KK.moved hW.alike hK, by rw [ht, hz2]; exact hz1⟩, hS2.F ht⟩) hS2.2.2 (by decide +kernel)
  · refine lc_callX (o := 0) (as := [.int x]) (rest := [.int 0, .ref (base + 95)]) C jm_ok1198 rfl (nx_bad hl (is := 469) (tx := "no such number") (sk := 2) (k9 := 22) hpre hg jm_ok1198 rfl rfl rfl (fun U q => q.2.2.2.1) (by decide +kernel) (by decide +kernel) (Or.inr ⟨by decide +kernel, rfl⟩) (by decide +kernel) (by decide +kernel)) rfl h0 hN hlk (by decide +kernel) (by decide) (by decide) (by decide) (by decide) hl9.1 (Nat.le_of_ble_eq_true rfl) hP hz hS rfl ?_
    intro ce q9 H1 locs1 hP1 hz1 hS1 hce hcv hcl
    refine vq_catch hown ⟨0, 9, 12, 13⟩ htab (by decide) (by decide) (hts2 lh_c lh_c_in) (lh_cast hN) hce hcv hcl ?_
    refine lv_astore_n (k := 3) (lv' := [(3, .ref q9), (0, .ref base), (1, .int x), (2, .ref (base + 95))]) hx hb (by decide +kernel) rfl hl9 (by decide) rfl (fun ls hl => ?_)
    refine lv_iconst (n := 1) (v := 1) hx hb (by decide +kernel) (by decide) ?_
    exact W.iret (v := 1) hx hb hr (fun t ht hW => ⟨⟨1, (f, H1.size - base - 96), rfl, Or.inr ⟨hg, rfl⟩, by rw [ht, lh_ws (g' := g) h95 hln]; exact hP1, jx_KK.moved hW.alike hK, by rw [ht, lh_G, hln]; rw [hln] at hz1; omega⟩, hS1.F ht⟩) hS1.2.2 (by decide +kernel)
