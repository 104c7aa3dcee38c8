/-! ===== the law's start ===== -/
section LSA
variable {p : Program} {l : Launch} {e : Env} {R : Room} {s : State} {m : MethodId} {args : Array Value} {below : List Frame} {meth : Method} {c : Code} {base : Nat} {D : va_G} {cA : Nat → ClassId} {O : Nat → va_E} {cc : ByteArray} {nL : Nat} {own : String} {Q : State → Prop} {cells slots pc : Nat} {h h1 : jx_H} {H : Heap} {locs : List Loc} {lsA : Array Slot} {rest : List Value}
theorem lc_new (C : lc_C p s m args c base D cA cc nL own) (hG : jx_G O = 0) {a d : Nat} (ha : a < 12) (ha1 : a ≠ 1) (hw : Cond.classLink own d (jx_nm a) ∈ lw_g) (hc : cells + 1 ≤ R.cells) (hs : slots + jx_N a ≤ R.slots) (hd : decode cc pc = .ok (.new d, 3))
    (hP : va_P D jx_cl (jx_ws base cA O h) H) (hz0 : H.size = base + h.1.length + jx_G O) (hS : va_S (fun q => base ≤ q) s.heap H locs)
    (kk : ∀ (H1 : Heap), va_P D jx_cl (jx_ws base cA O (cx_new h a)) H1 → H1.size = base + (cx_new h a).1.length + jx_G O → va_S (fun q => base ≤ q) s.heap H1 locs → W p l e R s m args below meth c H1 locs (cells + 1) (slots + jx_N a) Q (F0 m (pc + 3) lsA (.ref (base + h.1.length) :: rest))) : W p l e R s m args below meth c H locs cells slots Q (F0 m pc lsA rest) := by
  have hz : H.size = base + h.1.length := by omega
  have hK := C.2.2.2.2.2.1
  obtain ⟨T, hT⟩ := jx_cls ha
  have hok := jx_cl_ok a _ hT
  have hnw := jx_new_ok a _ hT ha1 ha
  have hKn := hK.1.1 a _ hT
  refine W.newcK C.1 C.2.1 C.2.2.2.1 (C.2.2.2.2.1 _ hw) (C.2.2.2.2.1 _ hnw.1) (C.2.2.2.2.1 _ hnw.2) rfl hd hc hs hKn.2.1 hz fun H1 kC hkC e1 z1 o1 => ?_
  refine kk H1 ?_ (by rw [z1, hG]; show base + h.1.length + 1 = base + (h.1 ++ [_]).length + 0; rw [List.length_append, List.length_singleton]; omega) (jx_S_push hS (by rw [z1, hz]) (by rw [hz]; exact o1))
  refine jx_P_push (q0 := (10 + a, jx_N a)) hP hz rfl (fun i hi => jx_e_congr ?_ rfl (fun j hj => ?_) (fun j hj => ?_)) ?_ (by rw [hz]; exact o1)
  · exact List.getElem?_append_left hi
  · have : ¬ 64 * h.1.length ≤ 64 * i + j := by omega
    simp [cx_new, this]
  · have : ¬ 64 * h.1.length ≤ 64 * i + j := by omega
    simp [cx_new, this]
  · rw [jx_e_obj (h := cx_new h a) (c := a) (n := jx_N a) (by show (h.1 ++ [_])[h.1.length]? = _; rw [List.getElem?_append_right (Nat.le_refl _), Nat.sub_self]; rfl)]
    refine ⟨_, hT, (u_born (jx_ty a) C.2.2.2.2.1 hok.2.2.1 hKn hkC e1 hok.2.2.2.2.1).to (fun k hk => ?_)⟩
    have hk64 : k < 64 := Nat.lt_of_lt_of_le hk hok.2.1
    have hk2 : k < jx_N a := hk
    rw [jx_def_ok a ha k hk64]
    simp [vp_V, List.getD_eq_getElem?_getD, hk2, jx_f, hk64, jx_V, cx_new]
/-- the law's own long[] behind the world -/
theorem lc_newl (C : lc_C p s m args c base D cA cc nL own) {f : Nat → Int64} (hd : decode cc pc = .ok (.newarray .long, 2)) (hw : Cond.arrayClass .long ∈ lw_g) (hc : cells + 1 ≤ R.cells) (hs : slots + 1 ≤ R.slots) (hln : h.1.length = 95) (hf : f = fun _ => 0)
    (hP : va_P D jx_cl (jx_ws base cA (fun _ => .inr (0, [])) h) H) (hz : H.size = base + h.1.length) (hS : va_S (fun q => base ≤ q) s.heap H locs)
    (kk : ∀ (H1 : Heap) (cL : ClassId), va_K D jx_cl [(cL, .long)] s → va_P D jx_cl (jx_ws base cA (lh_O cL f 0) (h.1 ++ [(3, 1)], h.2)) H1 → H1.size = base + 96 → va_S (fun q => base ≤ q) s.heap H1 locs → W p l e R s m args below meth c H1 locs (cells + 1) (slots + 1) Q (F0 m (pc + 2) lsA (.ref (base + 95) :: rest))) : W p l e R s m args below meth c H locs cells slots Q (F0 m pc lsA (.int 1 :: rest)) := by
  have hK := C.2.2.2.2.2.1.1
  refine va_newaK (atype := .long) (N := 1) C.1 C.2.1 (C.2.2.2.2.1 _ hw) rfl hd rfl (by decide) (by decide) (by decide) hc hs (h := base + 95) (by rw [hz, hln]) fun H1 cL e1 z1 o1 hAr hNm => ?_
  refine kk H1 cL ⟨hK.1, fun k q hk => ?_⟩ ?_ z1 (jx_S_push hS (by rw [z1, hz, hln]) (by rw [hz, hln]; exact o1))
  · match k, hk with
    | 0, hk => cases hk; exact ⟨hAr, hNm⟩
    | k + 1, hk => simp at hk
  · intro i q hq
    have hl1 : (jx_ws base cA (lh_O cL f 0) (h.1 ++ [(3, 1)], h.2)).length = 96 := by
      unfold jx_ws
      rw [List.length_map, List.length_range]
      show (h.1 ++ [(3, 1)]).length = 96
      rw [List.length_append, hln]
      rfl
    have hi : i < 96 := by
      have := (List.getElem?_eq_some_iff.mp hq).1
      omega
    rw [jx_ws_get (by show i < (h.1 ++ [(3, 1)]).length; rw [List.length_append, hln]; exact hi)] at hq
    cases hq
    by_cases h95 : i = 95
    · subst h95
      rw [lh_e95 (by show (h.1 ++ [(3, 1)])[95]? = _; rw [List.getElem?_append_right (by omega), hln]; rfl), hf]
      show H1[base + 95]? = some (vp_cell _ _)
      rw [e1, vp_cell_l]
      rfl
    · have hold := hP i (base + i, jx_e base cA (fun _ => .inr (0, [])) h i) (jx_ws_get (by omega))
      have e2 : jx_e base cA (lh_O cL f 0) (h.1 ++ [(3, 1)], h.2) i = jx_e base cA (fun _ => .inr (0, [])) h i := by
        have e3 : lh_O cL f 0 i = .inr (0, []) := by
          unfold lh_O
          rw [if_neg h95, if_neg (by omega)]
        have e4 : (h.1 ++ [(3, 1)])[i]? = h.1[i]? := List.getElem?_append_left (by omega)
        unfold jx_e
        simp only [e3, e4]
        rfl
      rw [e2]
      exact hold.kept (o1 (base + i) (by omega))
end LSA
theorem ls_arr {s : State} {args : Array Value} {ty : FieldType} (hty : ∀ C, ty ≠ .object C) (h : (Cond.arrayClass ty).before args s = true) : ∃ cA : ClassId, ArrOfT s cA ty ∧ va_RA s cA ty := by
  obtain ⟨cA, kA, comp, h1, h2, h3⟩ := Cond.arrayClass_spec h
  refine ⟨cA, fun n z => ⟨fun k h => (by cases h), kA, h2, comp, h3⟩, ?_⟩
  cases ty with
  | object C => exact absurd rfl (hty C)
  | _ => exact h1
theorem ls_arrO {s : State} {args : Array Value} {C : String} (h : (Cond.arrayOver (.object C)).before args s = true) : ∃ cA : ClassId, ArrOfT s cA (.object C) ∧ va_RA s cA (.object C) := by
  obtain ⟨comp, cA, kA, h1, h2, h3, h4, h5⟩ := Cond.arrayOver_spec h
  exact ⟨cA, fun n z => ⟨fun k h => (by cases h), kA, h3, comp, h4⟩, kA, comp, h3, h4, h1, h5⟩
theorem ls_str {s : State} {args : Array Value} {own tx : String} {k : Nat} {cur : Nat} (hcur : s.vm.findClass own = some cur) (h : (Cond.stringRef own k tx).before args s = true) : ∃ a, vk_R own k tx a s := by
  obtain ⟨-, -, -, a, -, -, -, -, -, he⟩ := Cond.stringRef_spec hcur h
  exact ⟨a, vk_R.of h he⟩
theorem ls_B : ∀ w ∈ nx_B, w ∈ lw_tbl ∧ w.onTables = true := by decide +kernel
set_option maxHeartbeats 8000000 in
set_option maxRecDepth 100000 in
/-- THE LAW, from its entry -/
theorem whole_start {p : Program} {e : Env} {s : State} {m : MethodId} {below : List Frame} {meth : Method} {c : Code} (l : Launch) (hlt : l.stackTraces = false) {b L : Nat} {xs : Nat → Int32} (hL : L ≤ 2560) (C0 : lw_At p s m meth c b L xs) : W p l e room_1 s m #[Value.ref b] below meth c s.heap [] 0 0 (lw_Z below #[Value.ref b] s) (entryFrame m ([Value.ref b] : List Value).toArray 7) := by
  obtain ⟨hx, hb, hr, hml, hown, hts, hX, hbl, hlocks, hgv⟩ := id C0
  have hg : ∀ w ∈ lw_g, w.before #[Value.ref b] s = true := fun w hw => hts w (List.mem_filter.mp hw).1
  have hq9 := flat_of_before _ hgv
  have hKn : ∀ c : Nat, ∃ (cC : ClassId) (iS : Nat → Nat), ∀ q : vw_C, jx_cl[c]? = some q → u_Kn s q.1 q.2.1 q.2.2 cC iS := by
    intro c
    cases hc : jx_cl[c]? with
    | none => exact ⟨0, fun _ => 0, fun q hq => by cases hq⟩
    | some q =>
      have h12 : c < 12 := by
        have := (List.getElem?_eq_some_iff.mp hc).1
        have h13 : jx_cl.length = 12 := rfl
        omega
      by_cases h1 : c = 1
      · subst h1
        obtain ⟨cC, iS, h⟩ := u_known (n := 6) hg (jx_cl_ok 1 q hc).2.2.1 (by cases hc; exact hg _ (by decide +kernel))
        exact ⟨cC, iS, fun q' hq => by cases hq; exact h⟩
      · obtain ⟨cC, iS, h⟩ := u_known (n := q.2.2) hg (jx_cl_ok c q hc).2.2.1 (hg _ (jx_new_ok c q hc h1 h12).1)
        exact ⟨cC, iS, fun q' hq => by cases hq; exact h⟩
  have hD : ∀ (c : Nat) (q : vw_C), jx_cl[c]? = some q → u_Kn s q.1 q.2.1 q.2.2 (Classical.choose (hKn c)) (Classical.choose (Classical.choose_spec (hKn c))) := fun c q hq => Classical.choose_spec (Classical.choose_spec (hKn c)) q hq
  obtain ⟨D, hD⟩ : ∃ D : va_G, ∀ (c : Nat) (q : vw_C), jx_cl[c]? = some q → u_Kn s q.1 q.2.1 q.2.2 (D.1 c) (D.2 c) := ⟨(fun c => Classical.choose (hKn c), fun c => Classical.choose (Classical.choose_spec (hKn c))), hD⟩
  obtain ⟨c0, a0, r0⟩ := ls_arr (ty := .int) (fun C q => by cases q) (hts (.arrayClass .int) (by decide +kernel))
  obtain ⟨c1, a1, r1⟩ := ls_arr (ty := .byte) (fun C q => by cases q) (hts (.arrayClass .byte) (by decide +kernel))
  obtain ⟨c2, a2, r2⟩ := ls_arr (ty := .boolean) (fun C q => by cases q) (hts (.arrayClass .boolean) (by decide +kernel))
  obtain ⟨c4, a4, r4⟩ := ls_arrO (C := jx_SC) (hts (.arrayOver (.object jx_SC)) (by decide +kernel))
  obtain ⟨cA, e0, e1, e2, e4⟩ : ∃ cA : Nat → ClassId, cA 0 = c0 ∧ cA 1 = c1 ∧ cA 2 = c2 ∧ cA 4 = c4 := ⟨fun k => if k = 0 then c0 else if k = 1 then c1 else if k = 2 then c2 else c4, rfl, rfl, rfl, rfl⟩
  have hKK : jx_KK D cA s := by
    refine ⟨⟨hD, fun k q hk => ?_⟩, va_AO.of (hts (.arrayOver (.object jx_SC)) (by decide +kernel))⟩
    match k, hk with
    | 0, hk => cases hk; rw [e0]; exact ⟨a0, r0⟩
    | 1, hk => cases hk; rw [e1]; exact ⟨a1, r1⟩
    | 2, hk => cases hk; rw [e2]; exact ⟨a2, r2⟩
    | 3, hk => cases hk; rw [e4]; exact ⟨a4, r4⟩
    | k + 4, hk => simp [jx_ta] at hk
  have hcls : s.vm.findClass "OfDifferentMinds" = some (D.1 10) := (hD 10 _ rfl).2.1
  obtain ⟨s0, t0⟩ := ls_str hcls (hts (.stringRef "OfDifferentMinds" 166 "no such place") (by decide +kernel))
  obtain ⟨s1, t1⟩ := ls_str hcls (hts (.stringRef "OfDifferentMinds" 189 "no such rider") (by decide +kernel))
  obtain ⟨s2, t2⟩ := ls_str hcls (hts (.stringRef "OfDifferentMinds" 469 "no such number") (by decide +kernel))
  obtain ⟨sa, hN⟩ : ∃ sa, nx_P s.heap.size sa s := ⟨fun k => if k = 0 then s0 else if k = 1 then s1 else s2, fun w hw => va_Nw.of (ls_B w hw).2 (hts w (ls_B w hw).1), t0, t1, t2,
    vx_Zqof (hts (.laysStatic Bundle.tN "UNASSIGNED_STACK" Bundle.steD) (by decide +kernel)) (hts (.initialized Bundle.tN) (by decide +kernel)) (hq9 _ (by decide +kernel)) (fun a h => Nat.not_le.mpr h),
    vx_Zqof (hts (.laysStatic Bundle.tN "SUPPRESSED_SENTINEL" Bundle.listD) (by decide +kernel)) (hts (.initialized Bundle.tN) (by decide +kernel)) (hq9 _ (by decide +kernel)) (fun a h => Nat.not_le.mpr h)⟩
  have C : lc_C p s m #[Value.ref b] c s.heap.size D cA code 7 "OfDifferentMindsLaw" := ⟨hx, hb, hml, hown, hg, hKK, Nat.le_refl _⟩
  have hS : va_S (fun q : Nat => s.heap.size ≤ q) s.heap s.heap [] := va_S.rf
  have hP : va_P D jx_cl (jx_ws s.heap.size cA (fun _ => .inr (0, [])) cx_e) s.heap := fun k q h => by simp [jx_ws, cx_e] at h
  have hl := lv_entry ([.ref b]) (n := 7) (Nat.le_of_ble_eq_true rfl)
  rw [lg_entry_eq]
  generalize (lg_sl ([.ref b]) ++ List.replicate (7 - (lg_sl ([.ref b])).length) Slot.unset).toArray = ls at hl ⊢
  have hl : lv_has ls 7 [(0, .ref b)] := hl
  have g0 : jx_G (fun _ => .inr (0, [])) = 0 := rfl
  refine lc_new (a := 10) (d := 8) (h := cx_e) C g0 (by decide) (by decide) (by decide +kernel) (by decide) (by decide) (by decide +kernel) hP (by rw [g0]; rfl) hS ?_
  intro H1 hP1 hz1 hS1
  refine lv_dup hx hb (by decide +kernel) rfl ?_
  refine lc_callI (idx := 22) (o := 0) (as := []) (rest := [.ref s.heap.size]) (x := (jLAY.take 65).drop 1) C g0 jm_at128 rfl cx_sp1 (by rw [cx_l1]; decide +kernel) (hg _ (by decide +kernel)) (by decide +kernel) (by decide) (by decide) (by decide +kernel) (by decide +kernel) hl.1 (Nat.le_of_ble_eq_true rfl) hP1 hz1 hS1 rfl ?_
  intro H2 locs2 hP2 hz2 hS2
  refine lv_astore_n (k := 1) (lv' := [(1, .ref s.heap.size), (0, .ref b)]) hx hb (by decide +kernel) rfl hl (by decide) rfl (fun ls hl => ?_)
  have e65 : cx_h1.1.length = 65 := by rw [cx_l1]; rfl
  refine lc_new (a := 11) (d := 23) (h := cx_h1) C g0 (by decide) (by decide) (by decide +kernel) (by decide +kernel) (by decide +kernel) (by decide +kernel) hP2 hz2 hS2 ?_
  rw [e65]
  intro H3 hP3 hz3 hS3
  refine lv_dup hx hb (by decide +kernel) rfl ?_
  refine lc_callI (idx := 25) (o := 65) (as := []) (rest := [.ref (s.heap.size + 65)]) (x := jLAY.drop 66) C g0 jm_at199 rfl cx_sp2 (by rw [cx_l2]; show jLAY = (cx_h1.1 ++ [(10 + 11, jx_N 11)]) ++ _; rw [cx_l1]; decide +kernel) (hg _ (by decide +kernel)) (by decide +kernel) (by decide) (by decide) (by decide +kernel) (by decide +kernel) hl.1 (Nat.le_of_ble_eq_true rfl) hP3 hz3 hS3 rfl ?_
  intro H4 locs4 hP4 hz4 hS4
  refine lv_astore_n (k := 2) (lv' := [(2, .ref (s.heap.size + 65)), (1, .ref s.heap.size), (0, .ref b)]) hx hb (by decide +kernel) rfl hl (by decide) rfl (fun ls hl => ?_)
  refine lv_iconst (n := 1) (v := 1) hx hb (by decide +kernel) (by decide) ?_
  have e95 : cx_h2.1.length = 95 := by rw [cx_l2]; rfl
  refine lc_newl (h := cx_h2) C (by decide +kernel) (by decide +kernel) (by decide +kernel) (by decide +kernel) e95 rfl hP4 (by rw [hz4, g0, Nat.add_zero]) hS4 ?_
  intro H5 cL hKL hP5 hz5 hS5
  refine lv_astore_n (k := 3) (lv' := [(3, .ref (s.heap.size + 95)), (2, .ref (s.heap.size + 65)), (1, .ref s.heap.size), (0, .ref b)]) hx hb (by decide +kernel) rfl hl (by decide) rfl (fun ls hl => ?_)
  refine lv_iconst (n := 0) (v := 0) hx hb (by decide +kernel) (by decide) ?_
  refine lv_istore (lv' := [(4, .int 0), (3, .ref (s.heap.size + 95)), (2, .ref (s.heap.size + 65)), (1, .ref s.heap.size), (0, .ref b)]) hx hb (by decide +kernel) hl (by decide) rfl (fun ls hl => ?_)
  refine W.widen (k := 1000) (n := 10000) (by decide +kernel) (by decide +kernel) ?_
  exact ll_loop ⟨C0, hKK, hKL, hN, hlt⟩ hL 513 0 rfl (fun j hj => absurd hj (by omega)) H5 _ ls ⟨cx_h3, cx_T, cx_T, 0, 0, fun _ => 0, 0, cx_W, cx_R, cx_95, cx_96, hP5, by rw [hz5, cx_96]; rfl, hS5⟩ (lv_sub hl [4, 3, 2, 1, 0] rfl)
