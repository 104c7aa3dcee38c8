/-! ===== what the small machine answers, the machine does ===== -/
def jx_rt (r : Option FieldType) : Nat := match r with
  | none => 0
  | some .int => 1
  | some .boolean => 2
  | _ => 3
def jx_okM (m : Nat) (i : jx_M) : Prop :=
  jx_ys[m]? = some i.1 ∧ i.1.cls = jx_nm i.2.2.2.2.2.2.1 ∧ plainName i.1.cls = true ∧ (i.1.cls ≠ "java/lang/invoke/MethodHandle" ∧ i.1.cls ≠ "java/lang/invoke/VarHandle") ∧
  (parseMethodDescriptor i.1.desc).map (fun d => d.parameters.length) = some (if i.2.2.2.2.1 = 2 then i.2.2.2.2.2.1 else i.2.2.2.2.2.1 - 1) ∧
  Cond.code i.1 i.2.1 i.2.2.1 i.2.2.2.1 ∈ lw_g ∧ Cond.initialized i.1.cls ∈ lw_g ∧
  (i.2.2.2.2.1 = 0 → Cond.instanceMethod i.1 ∈ lw_g ∧ Cond.selects i.1.cls i.1 i.1 ∈ lw_g ∧ i.2.2.2.2.2.2.1 < 12) ∧
  (i.2.2.2.2.1 = 1 → i.1.name = "<init>" ∧ Cond.instanceMethod i.1 ∈ lw_g ∧ i.2.2.2.1 = none) ∧
  (i.2.2.2.2.1 = 2 → Cond.static i.1 ∈ lw_g) ∧ i.2.2.1 ≤ 40 ∧ i.2.2.2.2.2.1 ≤ i.2.2.1 ∧ jx_rt i.2.2.2.1 < 3 ∧ jx_kc[m]? = some (i.2.2.2.2.1, i.2.2.2.2.2.2.1) ∧
  ∀ b ∈ i.2.2.2.2.2.2.2, jx_okR i.2.1 i.2.2.2.2.2.2.1 i.2.2.1 (jx_rt i.2.2.2.1) i.2.2.2.2.1 b.1 b.2 = true
set_option maxHeartbeats 4000000 in
theorem jx_grow1 {bl : jx_B} {e0 : jx_E} {r r' : List jx_E} {ls st ls' st' : List Value} {h h1 : jx_H} (hs : jx_s bl e0 r ls st h = some (.inl (r', ls', st', h1))) : ∃ x, h1.1 = h.1 ++ x := by
  obtain ⟨pc0, op, ⟨a, b, c0, d⟩, x, L⟩ := e0
  unfold jx_s at hs
  simp only [jx_n] at hs
  split at hs
  all_goals (repeat' (split at hs))
  all_goals (first | (cases hs; exact ⟨[], (List.append_nil _).symm⟩) | (cases hs; exact ⟨[_], rfl⟩) | cases hs)
theorem jx_grow {MS : List jx_M} : ∀ (n d : Nat) (bl : jx_B) (rem : List jx_E) (ls st : List Value) (h : jx_H) (v : Option Value) (h' : jx_H), jx_x MS d n bl rem ls st h = some (v, h') → ∃ x, h'.1 = h.1 ++ x
  | 0, d, bl, rem, ls, st, h, v, h', hx => by cases hx
  | n + 1, d, bl, [], ls, st, h, v, h', hx => by cases hx
  | n + 1, d, bl, e :: r, ls, st, h, v, h', hx => by
    unfold jx_x at hx
    simp only at hx
    split at hx
    · cases hx
    · rename_i q hq
      obtain ⟨q1, q2, q3, q4⟩ := q
      obtain ⟨x1, e1⟩ := jx_grow1 hq
      obtain ⟨x2, e2⟩ := jx_grow n _ _ _ _ _ _ _ _ hx
      exact ⟨x1 ++ x2, by rw [e2]; simp only; rw [e1, List.append_assoc]⟩
    · cases hx
      exact ⟨[], (List.append_nil _).symm⟩
    · split at hx
      · split at hx
        · split at hx
          · rename_i y hy
            obtain ⟨x1, e1⟩ := jx_grow n _ _ _ _ _ _ _ _ hy
            obtain ⟨x2, e2⟩ := jx_grow n _ _ _ _ _ _ _ _ hx
            exact ⟨x1 ++ x2, by rw [e2, e1, List.append_assoc]⟩
          · cases hx
        · cases hx
      · cases hx
def jx_Bd (base : Nat) (D : va_G) (cA : Nat → ClassId) (O : Nat → va_E) (h : jx_H) (U : State) : Prop := va_P D jx_cl (jx_ws base cA O h) U.heap ∧ jx_KK D cA U ∧ U.heap.size = base + h.1.length + jx_G O
def jx_Qc (base : Nat) (D : va_G) (cA : Nat → ClassId) (O : Nat → va_E) (v : Option Value) (h' : jx_H) : Array Value → State → Outcome → State → Prop := fun _ st o t =>
  (o = .returned (v.map (jx_V base)) ∧ jx_Bd base D cA O h' t) ∧ va_F (fun q => base ≤ q) st t
def jx_rm (d mc ms : Nat) : Room := { frames := d + 1, cells := mc, slots := ms, locals := 64 * (d + 1) }
def jx_wsM (i : jx_M) : List Cond := Cond.code i.1 i.2.1 i.2.2.1 i.2.2.2.1 :: lw_g
def jx_MetM (l : Launch) (base : Nat) (D : va_G) (cA : Nat → ClassId) (O : Nat → va_E) (d : Nat) (i : jx_M) (as : List Value) (h : jx_H) (v : Option Value) (h' : jx_H) (x : List (Nat × Nat)) : Prop :=
  Met l i.1 (jx_wsM i) (jx_rm d x.length (jx_sz x)) (va_Pc (as.map (jx_V base)) (jx_Bd base D cA O h)) (jx_Qc base D cA O v h') x.length (jx_sz x) (fun q => base ≤ q)
theorem jx_good {m : Nat} {i : jx_M} (h : jx_okM m i) : GoodIn lw_g (jx_wsM i) := by
  intro w hw
  have hm : w ∈ lw_g := by
    rcases List.mem_cons.mp hw with rfl | hw
    · exact h.2.2.2.2.2.1
    · exact hw
  exact ⟨hm, good_of_word (List.mem_filter.mp hm).2⟩
theorem jx_blind {base : Nat} {D : va_G} {cA : Nat → ClassId} {O : Nat → va_E} {as : List Value} {h : jx_H} : FrameBlind (va_Pc as (jx_Bd base D cA O h)) := fun a U g mk q => ⟨q.1, q.2.1, jx_KK.moved (u := U) (U := U.calling g mk a) (Vm.Alike.refl U.vm) q.2.2.1, q.2.2.2⟩
section JXS
variable {p : Program} {l : Launch} {e : Env} {R : Room} {s : State} {m : MethodId} {args : Array Value} {below : List Frame} {meth : Method} {c : Code} {base : Nat} {D : va_G} {cA : Nat → ClassId} {O : Nat → va_E} {cc : ByteArray} {nL own : Nat} {Q : State → Prop} {cells slots pc : Nat} {ls st : List Value} {h : jx_H}
theorem jx_after {H : Heap} {locs : List Loc} {lsA : Array Slot} {st0 rest : List Value} {mc ms : Nat} {v : Option Value} {h1 : jx_H} {av : Array Value} (hr : va_Run p l e R s m args below meth c H locs cells slots mc ms (F0 m pc lsA st0) rest (jx_Qc base D cA O v h1 av) (fun q => base ≤ q)) (hS : va_S (fun q => base ≤ q) s.heap H locs) (hL : jx_L base ls lsA nL) (hrest : rest = st.map (jx_V base))
    (kk : jx_Go p l e R s m args below meth c base D cA O nL Q (cells + mc) (slots + ms) (pc + 3) ls (v.toList ++ st) h1) : W p l e R s m args below meth c H locs cells slots Q (F0 m pc lsA st0) := by
  intro T hT X
  obtain ⟨v', st₀, t, T', L, h0, X', hLo, e1, e2, ⟨⟨hv, hP1, hK1, hz1⟩, hz, hk⟩, stp⟩ := hr T hT X
  have hv2 : v' = v.map (jx_V base) := Outcome.returned.inj hv
  subst hv2
  rw [h0] at hz hk
  obtain ⟨t2, a1, b1⟩ := kk T'.heap (locs ++ L) lsA (by rw [e1]; exact hP1) (by rw [e1]; exact hz1)
    ⟨Nat.le_trans hS.1 (by rw [e1]; exact hz), fun q h1 h2 => by rw [e1, hk q (Nat.lt_of_lt_of_le h1 hS.1) h2]; exact hS.2.1 q h1 h2, fun q hq => by
      rcases List.mem_append.mp hq with h | h
      · exact hS.2.2 q h
      · exact hLo q h⟩ hL T' rfl X'
  refine ⟨t2, stp t2 ?_, b1⟩
  have e3 : (v.toList ++ st).map (jx_V base) = (v.map (jx_V base)).toList ++ rest := by
    rw [hrest, List.map_append]
    cases v <;> rfl
  rw [e3] at a1
  exact a1
theorem jx_cat_map (st : List Value) : ((st.map (jx_V base)).map fun v => v.category) = st.map fun v => v.category := by
  rw [List.map_map]
  exact List.map_congr_left fun v _ => jx_V_cat base v
theorem jx_callB {m0 d' : Nat} {i : jx_M} {x1 : List (Nat × Nat)} {d : Nat} (C : jx_Cx p s m args meth c base D cA cc nL own) (hi : jx_okM m0 i) (hw : Cond.methodLink (jx_nm own) d i.1 ∈ lw_g) (hfr : d' + 1 + 1 ≤ R.frames) (hlo : 64 * (d' + 1 + 1) ≤ R.locals) {n0 : Nat} (hn0 : n0 = (if i.2.2.2.2.1 = 2 then i.2.2.2.2.2.1 else i.2.2.2.2.2.1 - 1)) :
    CallB R s args (jx_nm own) d i.1 i.2.1 i.2.2.1 i.2.2.2.1 (jx_wsM i) (jx_rm d' x1.length (jx_sz x1)) x1.length (jx_sz x1) n0 := by
  have hts := C.2.2.2.2.1
  have h40 := hi.2.2.2.2.2.2.2.2.2.2.1
  refine callB_of (Ts := lw_g) n0 hts (jx_good hi) rfl rfl rfl (hts _ hi.2.2.2.2.2.2.1) (hts _ hw) ⟨hi.2.2.2.1.1, hi.2.2.2.1.2, ?_⟩ ⟨hfr, ?_⟩
  · rw [hn0]; exact hi.2.2.2.2.1
  · show 8 + (i.2.2.1 + 11) + 64 * (d' + 1) ≤ R.locals
    omega
/-- a call of a method of the small machine -/
theorem jx_call {m0 d' : Nat} {i : jx_M} {as : List Value} {h1 : jx_H} {v : Option Value} {x1 : List (Nat × Nat)} {op a b c0 d : Nat} {x : Int32} {L : List (Int32 × Nat)} {bl : jx_B} {r r' : List jx_E} {ls' st' : List Value} (C : jx_Cx p s m args meth c base D cA cc nL own) (hi : jx_okM m0 i)
    (hM : jx_MetM l base D cA O d' i as h v h1 x1) (hs : jx_s bl (pc, op, (a, b, c0, d), x, L) r ls st h = some (.inr (.inl (m0, as, r', ls', st')))) (hlen : as.length = i.2.2.2.2.2.1) (hd : decode cc pc = .ok (jx_ins (pc, op, (a, b, c0, d), x, L))) {rt kd : Nat} (hsd : jx_side own nL rt kd (pc, op, (a, b, c0, d), x, L) = true)
    (hfr : d' + 1 + 1 ≤ R.frames) (hlo : 64 * (d' + 1 + 1) ≤ R.locals) (hcl : cells + x1.length ≤ R.cells) (hsl : slots + jx_sz x1 ≤ R.slots)
    (kk : jx_Go p l e R s m args below meth c base D cA O nL Q (cells + x1.length) (slots + jx_sz x1) (pc + 3) ls' (v.toList ++ st') h1) : r' = r ∧ jx_Go p l e R s m args below meth c base D cA O nL Q cells slots pc ls st h := by
  have hys : jx_ys.getD m0 ⟨"", "", ""⟩ = i.1 := by rw [List.getD_eq_getElem?_getD, hi.1]; rfl
  have hpre : ∀ (H : Heap), va_P D jx_cl (jx_ws base cA O h) H → H.size = base + h.1.length + jx_G O → ∀ U : State, U.heap = H → s.WarmedH U.vm → va_Pc (as.map (jx_V base)) (jx_Bd base D cA O h) (as.map (jx_V base)).toArray U := fun H hP hz U hU hW => ⟨rfl, by rw [hU]; exact hP, jx_KK.moved hW.alike C.2.2.2.2.2.1, by rw [hU]; exact hz⟩
  by_cases h49 : op = 49
  · subst h49
    simp only [jx_s] at hs
    split at hs
    · rename_i o as' hrev
      split at hs
      · rename_i hc
        simp only [Option.some.injEq, Sum.inr.injEq, Sum.inl.injEq, Prod.mk.injEq] at hs
        obtain ⟨rfl, rfl, rfl, rfl, rfl⟩ := hs
        refine ⟨rfl, fun H locs lsA hP hz hS hL => ?_⟩
        have hkc := hi.2.2.2.2.2.2.2.2.2.2.2.2.2.1
        simp only [jx_side, Bool.and_eq_true, decide_eq_true_eq] at hsd
        obtain ⟨hsd, hkd⟩ := hsd
        rw [hkc] at hkd
        obtain ⟨hk0, hc0⟩ : i.2.2.2.2.1 = 0 ∧ c0 = i.2.2.2.2.2.2.1 := by
          simp only [Option.some.injEq, Prod.mk.injEq] at hkd
          exact ⟨hkd.1, hkd.2.symm⟩
        obtain ⟨hi1, hi2, hi3⟩ := hi.2.2.2.2.2.2.2.1 hk0
        have hw := jx_ml_in hsd
        rw [hys] at hw
        have hlb : as'.length + 1 = b := hc.2.1
        have hst : st = as'.reverse ++ .ref o :: st.drop b := by
          have h1 : st.take b = (.ref o :: as').reverse := by rw [← hrev, List.reverse_reverse]
          have h2 := List.take_append_drop b st
          rw [h1, List.reverse_cons, List.append_assoc] at h2
          exact h2.symm
        obtain ⟨hl1, lv, hl2, hl3⟩ := id hL
        refine jx_after (mc := x1.length) (ms := jx_sz x1) (rest := (st.drop b).map (jx_V base)) (va_runV (C := i.1.cls) (b := base + o) (As := as'.map (jx_V base)) (n := as'.length) (index := d) (own := jx_nm own) (Ts := lw_g) (cc := cc) (nL := nL) ⟨C.1, C.2.1, C.2.2.1, C.2.2.2.1, C.2.2.2.2.1⟩ hM ⟨jx_callB C hi hw hfr hlo (by rw [if_neg (by omega)]; rw [List.length_cons] at hlen; omega), C.2.2.2.2.1 _ hi1, C.2.2.2.2.1 _ hi2⟩ ⟨jx_blind, ?_, hpre H hP hz⟩ rfl (by rw [List.length_map]) (by show lsA.size = nL; rw [hl2.1]) ?_ ?_ hd ⟨hcl, hsl⟩) hS hL rfl kk
        · obtain ⟨T, hT⟩ := jx_cls hi3
          rw [hi.2.1, ← hc0]
          rw [← hc0] at hT
          exact va_recv C.2.2.2.2.2.1.1 hP hT (jx_obj_at hc.1)
        · show st.map (jx_V base) = _
          rw [← List.map_reverse]
          conv => lhs; rw [hst]
          rw [List.map_append]
          rfl
        · show 2 * 0 + _ ≤ 8
          rw [jx_cat_map]
          have : ((st.drop b).map fun v => v.category).sum ≤ 8 := hc.2.2
          omega
      · cases hs
    · cases hs
  · by_cases h50 : op = 50
    · subst h50
      simp only [jx_s] at hs
      split at hs
      · rename_i hc
        simp only [Option.some.injEq, Sum.inr.injEq, Sum.inl.injEq, Prod.mk.injEq] at hs
        obtain ⟨rfl, rfl, rfl, rfl, rfl⟩ := hs
        refine ⟨rfl, fun H locs lsA hP hz hS hL => ?_⟩
        have hkc := hi.2.2.2.2.2.2.2.2.2.2.2.2.2.1
        simp only [jx_side, Bool.and_eq_true, decide_eq_true_eq] at hsd
        obtain ⟨hsd, hkd⟩ := hsd
        rw [hkc] at hkd
        have hk0 : i.2.2.2.2.1 = 2 := by simpa using hkd
        have hi1 := hi.2.2.2.2.2.2.2.2.2.1 hk0
        have hw := jx_ml_in hsd
        rw [hys] at hw
        obtain ⟨hl1, lv, hl2, hl3⟩ := id hL
        refine jx_after (mc := x1.length) (ms := jx_sz x1) (rest := (st.drop b).map (jx_V base)) (va_runS (As := (st.take b).reverse.map (jx_V base)) (n := (st.take b).reverse.length) (index := d) (own := jx_nm own) (Ts := lw_g) (cc := cc) (nL := nL) ⟨C.1, C.2.1, C.2.2.1, C.2.2.2.1, C.2.2.2.2.1⟩ hM ⟨jx_callB C hi hw hfr hlo (by rw [if_pos hk0]; exact hlen), C.2.2.2.2.1 _ hi1⟩ ⟨jx_blind, hpre H hP hz⟩ rfl (by rw [List.length_map]) (by show lsA.size = nL; rw [hl2.1]) ?_ ?_ hd ⟨hcl, hsl⟩) hS hL rfl kk
        · show st.map (jx_V base) = _
          rw [← List.map_reverse, List.reverse_reverse, ← List.map_append, List.take_append_drop]
        · show 2 * 0 + _ ≤ 8
          rw [jx_cat_map]
          have : ((st.drop b).map fun v => v.category).sum ≤ 8 := hc.2
          omega
      · cases hs
    · by_cases h51 : op = 51
      · subst h51
        simp only [jx_s] at hs
        split at hs
        · rename_i o as' hrev
          split at hs
          · rename_i hc
            simp only [Option.some.injEq, Sum.inr.injEq, Sum.inl.injEq, Prod.mk.injEq] at hs
            obtain ⟨rfl, rfl, rfl, rfl, rfl⟩ := hs
            refine ⟨rfl, fun H locs lsA hP hz hS hL => ?_⟩
            have hkc := hi.2.2.2.2.2.2.2.2.2.2.2.2.2.1
            simp only [jx_side, Bool.and_eq_true, decide_eq_true_eq] at hsd
            obtain ⟨hsd, hkd⟩ := hsd
            rw [hkc] at hkd
            have hk0 : i.2.2.2.2.1 = 1 := by simpa using hkd
            obtain ⟨hi1, hi2, hi3⟩ := hi.2.2.2.2.2.2.2.2.1 hk0
            have hw := jx_ml_in hsd
            rw [hys] at hw
            have hst : st = as'.reverse ++ .ref o :: st.drop b := by
              have h1 : st.take b = (.ref o :: as').reverse := by rw [← hrev, List.reverse_reverse]
              have h2 := List.take_append_drop b st
              rw [h1, List.reverse_cons, List.append_assoc] at h2
              exact h2.symm
            obtain ⟨hl1, lv, hl2, hl3⟩ := id hL
            have hcb := jx_callB (x1 := x1) C hi hw hfr hlo (n0 := as'.length) (by rw [if_neg (by omega)]; rw [List.length_cons] at hlen; omega)
            rw [hi3] at hcb
            refine jx_after (mc := x1.length) (ms := jx_sz x1) (rest := (st.drop b).map (jx_V base)) (va_runI (b := base + o) (As := as'.map (jx_V base)) (n := as'.length) (index := d) (own := jx_nm own) (Ts := lw_g) (cc := cc) (nL := nL) ⟨C.1, C.2.1, C.2.2.1, C.2.2.2.1, C.2.2.2.2.1⟩ hM ⟨hcb, hi1, C.2.2.2.2.1 _ hi2⟩ ⟨jx_blind, hpre H hP hz⟩ rfl (by rw [List.length_map]) (by show lsA.size = nL; rw [hl2.1]) ?_ ?_ hd ⟨hcl, hsl⟩) hS hL rfl kk
            · show st.map (jx_V base) = _
              rw [← List.map_reverse]
              conv => lhs; rw [hst]
              rw [List.map_append]
              rfl
            · show 2 * 0 + _ ≤ 8
              rw [jx_cat_map]
              have : ((st.drop b).map fun v => v.category).sum ≤ 8 := hc.2
              omega
          · cases hs
        · cases hs
      · exfalso
        unfold jx_s at hs
        simp only [jx_n] at hs
        split at hs
        all_goals (first | (exact absurd rfl h49) | (exact absurd rfl h50) | (exact absurd rfl h51) | (repeat' (split at hs)))
        all_goals (first | cases hs | skip)
end JXS
set_option maxHeartbeats 4000000 in
theorem jx_call_r {bl : jx_B} {e0 : jx_E} {r r' : List jx_E} {ls st ls' st' as : List Value} {h : jx_H} {m0 : Nat} (hs : jx_s bl e0 r ls st h = some (.inr (.inl (m0, as, r', ls', st')))) : r' = r ∧ (jx_ins e0).2 = 3 := by
  obtain ⟨pc0, op, ⟨a, b, c0, d⟩, x, L⟩ := e0
  unfold jx_s at hs
  simp only [jx_n] at hs
  split at hs
  all_goals (repeat' (split at hs))
  all_goals (first | (cases hs; done) | (cases hs; exact ⟨rfl, rfl⟩))
theorem jx_sl_len {base : Nat} : ∀ (as : List Value), as.all (fun v => decide (v.category = 1)) = true → (lg_sl (as.map (jx_V base))).length = as.length
  | [], _ => rfl
  | v :: as, h => by
    simp only [List.all_cons, Bool.and_eq_true, decide_eq_true_eq] at h
    have ih := jx_sl_len (base := base) as h.2
    have h1 : (jx_V base v).category = 1 := by rw [jx_V_cat]; exact h.1
    simp only [lg_sl, List.map_cons, List.flatMap_cons, h1, List.length_append] at ih ⊢
    rw [ih]
    simp
    omega
theorem jx_args_in {base : Nat} : ∀ (as : List Value) (k : Nat), as.all (fun v => decide (v.category = 1)) = true → ∀ (i : Nat) (v : Value), as[i]? = some v → v.category = 1 ∧ (k + i, jx_V base v) ∈ lv_args k (as.map (jx_V base))
  | [], k, _, i, v, hv => by simp at hv
  | w :: as, k, h, i, v, hv => by
    simp only [List.all_cons, Bool.and_eq_true, decide_eq_true_eq] at h
    have h1 : (jx_V base w).category = 1 := by rw [jx_V_cat]; exact h.1
    simp only [List.map_cons, lv_args, h1]
    cases i with
    | zero =>
      cases hv
      exact ⟨h.1, List.mem_cons_self⟩
    | succ i =>
      obtain ⟨a, b⟩ := jx_args_in (base := base) as (k + 1) h.2 i v (by simpa using hv)
      refine ⟨a, List.mem_cons_of_mem _ ?_⟩
      rw [show k + (i + 1) = k + 1 + i by omega]
      simpa using b
theorem jx_L_entry {base nL : Nat} {as : List Value} (ha : as.all (fun v => decide (v.category = 1)) = true) (hl : as.length ≤ nL) : jx_L base (as ++ List.replicate (nL - as.length) (.retAddr 0)) ((lg_sl (as.map (jx_V base)) ++ List.replicate (nL - (lg_sl (as.map (jx_V base))).length) Slot.unset).toArray) nL := by
  have e1 := jx_sl_len (base := base) as ha
  refine ⟨by simp; omega, _, lv_entry (as.map (jx_V base)) (by rw [e1]; exact hl), fun i v hv hne => ?_⟩
  by_cases hi : i < as.length
  · rw [List.getElem?_append_left hi] at hv
    have := jx_args_in (base := base) as 0 ha i v hv
    rw [Nat.zero_add] at this
    exact this
  · rw [List.getElem?_append_right (by omega), List.getElem?_replicate] at hv
    split at hv
    · cases hv
      exact absurd rfl hne
    · cases hv
set_option maxHeartbeats 4000000 in
theorem jx_sound {MS : List jx_M} (hMS : ∀ m i, MS[m]? = some i → jx_okM m i) (l : Launch) {base : Nat} {D : va_G} {cA : Nat → ClassId} {O : Nat → va_E} : ∀ (n d m0 : Nat) (i : jx_M), jx_okM m0 i → ∀ (rem : List jx_E) (ls st : List Value) (h : jx_H) (v : Option Value) (h' : jx_H), jx_x MS d n i.2.2.2.2.2.2.2 rem ls st h = some (v, h') →
    ∀ (p : Program) (e : Env) (R : Room) (s : State) (m : MethodId) (args : Array Value) (below : List Frame) (meth : Method) (c : Code), jx_Cx p s m args meth c base D cA i.2.1 i.2.2.1 i.2.2.2.2.2.2.1 → meth.sig.returnType = i.2.2.2.1 → meth.locks = false → (i.2.2.2.2.1 = 1 → meth.name = "<init>") → d + 1 ≤ R.frames → 64 * (d + 1) ≤ R.locals →
    ∀ (x : List (Nat × Nat)) (cells slots pc : Nat), (x ≠ [] → jx_G O = 0) → h'.1 = h.1 ++ x → R.cells = cells + x.length → R.slots = slots + jx_sz x → jx_okR i.2.1 i.2.2.2.2.2.2.1 i.2.2.1 (jx_rt i.2.2.2.1) i.2.2.2.2.1 pc rem = true →
    jx_Go p l e R s m args below meth c base D cA O i.2.2.1 (MQ below (jx_Qc base D cA O v h') args s R.cells R.slots (fun q => base ≤ q)) cells slots pc ls st h
  | 0, d, m0, i, hi, rem, ls, st, h, v, h', hx => by cases hx
  | n + 1, d, m0, i, hi, [], ls, st, h, v, h', hx => by cases hx
  | n + 1, d, m0, i, hi, e0 :: r, ls, st, h, v, h', hx => by
    intro p e R s m args below meth c C hret hlk hini hfr hlo x cells slots pc hG hg hrc hrs hok
    have ih := jx_sound hMS l (base := base) (D := D) (cA := cA) (O := O) n
    have hbl := hi.2.2.2.2.2.2.2.2.2.2.2.2.2.2
    unfold jx_x at hx
    simp only at hx
    split at hx
    · cases hx
    · rename_i q hq
      obtain ⟨q1, q2, q3, q4⟩ := q
      obtain ⟨x1, e1⟩ := jx_grow1 hq
      obtain ⟨x2, e2⟩ := jx_grow n _ _ _ _ _ _ _ _ hx
      simp only at e2
      have e3 : x = x1 ++ x2 := by
        rw [hg, e1, List.append_assoc] at e2
        exact List.append_cancel_left e2
      subst e3
      have esz : jx_sz (x1 ++ x2) = jx_sz x1 + jx_sz x2 := by simp [jx_sz]
      rw [List.length_append] at hrc
      rw [esz] at hrs
      refine jx_one C hq hok hbl hini (by omega) (by omega) x1 (fun z => hG (fun w => z (List.append_eq_nil_iff.mp w).1)) e1 (by omega) (by omega) (fun pc' hok' => ?_)
      exact ih d m0 i hi q1 q2 q3 q4 v h' hx _ _ _ _ _ _ _ _ _ C hret hlk hini hfr hlo x2 _ _ pc' (fun z => hG (fun w => z (List.append_eq_nil_iff.mp w).2)) e2 (by omega) (by omega) hok'
    · rename_i v' hv
      cases hx
      obtain rfl : x = [] := jx_nil hg
      have hrc' : R.cells = cells := hrc
      have hrs' : R.slots = slots := hrs
      intro H locs lsA hP hz hS hL
      simp only [jx_okR, jx_okE, Bool.and_eq_true, decide_eq_true_eq] at hok
      obtain ⟨⟨hpc, hd, hsd⟩, hr⟩ := hok
      obtain ⟨pc0, op, ⟨a, b, c0, d0⟩, x0, L0⟩ := e0
      simp only at hpc
      subst hpc
      have hq : ∀ (w : Option Value), ∀ t : State, t.heap = H → s.WarmedH t.vm → jx_Qc base D cA O w h args s (.returned (w.map (jx_V base))) t := fun w t ht hW => ⟨⟨rfl, by rw [ht]; exact hP, jx_KK.moved hW.alike C.2.2.2.2.2.1, by rw [ht]; exact hz⟩, hS.F ht⟩
      rw [hrc', hrs']
      by_cases h69 : op = 69
      · subst h69
        simp only [jx_s] at hv
        split at hv
        · cases hv
          have hrt : jx_rt i.2.2.2.1 = 1 := by simpa [jx_side] using hsd
          have hri : i.2.2.2.1 = some .int := by
            unfold jx_rt at hrt
            split at hrt <;> first | rfl | (exfalso; omega) | skip
            all_goals simp_all
          exact W.iret C.1 C.2.1 (by rw [hret, hri]) (hq (some (.int _))) hS.2.2 hd hlk
        · cases hv
      · by_cases h70 : op = 70
        · subst h70
          simp only [jx_s] at hv
          split at hv
          · split at hv
            · rename_i hz01
              cases hv
              have hrt : jx_rt i.2.2.2.1 = 2 := by simpa [jx_side] using hsd
              have hri : i.2.2.2.1 = some .boolean := by
                unfold jx_rt at hrt
                split at hrt <;> first | rfl | (exfalso; omega) | skip
                all_goals simp_all
              refine W.zret (ty := .boolean) C.1 C.2.1 (by rw [hret, hri]) ?_ (hq (some (.int _))) hS.2.2 hd hlk
              rcases hz01 with rfl | rfl <;> rfl
            · cases hv
          · cases hv
        · by_cases h71 : op = 71
          · subst h71
            simp only [jx_s] at hv
            split at hv
            · cases hv
              have hrt : jx_rt i.2.2.2.1 = 0 := by simpa [jx_side] using hsd
              have hri : i.2.2.2.1 = none := by
                unfold jx_rt at hrt
                split at hrt <;> first | assumption | rfl | (exfalso; omega) | skip
                all_goals simp_all
              exact W.vret C.1 C.2.1 (by rw [hret, hri]) (hq none) hS.2.2 hd hlk
            · cases hv
          · exfalso
            unfold jx_s at hv
            simp only [jx_n] at hv
            split at hv
            all_goals (first | (exact absurd rfl h69) | (exact absurd rfl h70) | (exact absurd rfl h71) | (repeat' (split at hv)))
            all_goals (first | cases hv | skip)
    · rename_i k hk
      obtain ⟨k1, k2, k3, k4, k5⟩ := k
      split at hx
      · rename_i d' i1 hMi
        split at hx
        · rename_i hlen
          split at hx
          · rename_i y hy
            obtain ⟨v1, h1⟩ := y
            obtain ⟨x1, e1⟩ := jx_grow n _ _ _ _ _ _ _ _ hy
            obtain ⟨x2, e2⟩ := jx_grow n _ _ _ _ _ _ _ _ hx
            simp only at e2
            have e3 : x = x1 ++ x2 := by
              rw [hg, e1, List.append_assoc] at e2
              exact List.append_cancel_left e2
            subst e3
            have esz : jx_sz (x1 ++ x2) = jx_sz x1 + jx_sz x2 := by simp [jx_sz]
            rw [List.length_append] at hrc
            rw [esz] at hrs
            have hi1 := hMS _ _ hMi
            have hM : jx_MetM l base D cA O d' i1 k2 h v1 h1 x1 := by
              unfold jx_MetM
              refine Met.ofW (cc := i1.2.1) (maxL := i1.2.2.1) (ret := i1.2.2.2.1) hi1.2.2.1 rfl ?_
              intro p e s m args below meth c s₁ B hml hv
              obtain ⟨rfl, hP, hK, hz⟩ := hv
              have hts := atoms_spec (ws := jx_wsM i1) B.pre
              have hown : s.vm.findClass (jx_nm i1.2.2.2.2.2.2.1) = some m.cls := by
                rw [← hi1.2.1]
                exact findClass_of_methodNamed B.named
              have hna : k2.length ≤ i1.2.2.1 := by rw [hlen.1]; exact hi1.2.2.2.2.2.2.2.2.2.2.2.1
              have C1 : jx_Cx p s m (k2.map (jx_V base)).toArray meth c base D cA i1.2.1 i1.2.2.1 i1.2.2.2.2.2.2.1 := ⟨B.exec, B.bytes, hml, hown, fun w hw => hts w (List.mem_cons_of_mem _ hw), hK, by rw [hz]; omega⟩
              have g1 := ih d' _ i1 hi1 _ _ _ h v1 h1 hy p e (jx_rm d' x1.length (jx_sz x1)) s m (k2.map (jx_V base)).toArray below meth c C1 B.returns B.notSynchronized (fun hk => by rw [(name_of_methodNamed B.named B.method).1]; exact (hi1.2.2.2.2.2.2.2.2.1 hk).1) (Nat.le_refl _) (Nat.le_refl _) x1 0 0 0 (fun z => hG (fun w => z (List.append_eq_nil_iff.mp w).1)) e1 (Nat.zero_add _).symm (Nat.zero_add _).symm (jx_at_ok hi1.2.2.2.2.2.2.2.2.2.2.2.2.2.2 0)
              rw [lg_entry_eq]
              exact g1 s.heap [] _ hP hz va_S.rf (jx_L_entry hlen.2 hna)
            simp only [jx_okR, jx_okE, Bool.and_eq_true, decide_eq_true_eq] at hok
            obtain ⟨⟨hpc, hd, hsd⟩, hr⟩ := hok
            obtain ⟨pc0, op, ⟨a, b, c0, d0⟩, x0, L0⟩ := e0
            simp only at hpc
            subst hpc
            refine (jx_call C hi1 hM hk hlen.1 hd hsd (by omega) (by omega) (by omega) (by omega) ?_).2
            obtain ⟨hk3, h3⟩ := jx_call_r hk
            subst hk3
            rw [h3] at hr
            exact ih _ m0 i hi k3 k4 (v1.toList ++ k5) h1 v h' hx _ _ _ _ _ _ _ _ _ C hret hlk hini hfr hlo x2 _ _ (pc0 + 3) (fun z => hG (fun w => z (List.append_eq_nil_iff.mp w).2)) e2 (by omega) (by omega) hr
          · cases hx
        · cases hx
      · cases hx
