/-! ===== what the small machine answers, the machine does ===== -/
def jx_rt (r : Option FieldType) : Nat := match r with
  | none => 0
  | some .int => 1
  | some .boolean => 2
  | _ => 3
def jx_okM (m : Nat) (i : jx_M) : Prop :=
  jx_ys[m]? = some i.1 ∧ i.1.cls = jx_nm i.2.2.2.2.2.2.1 ∧ plainName i.1.cls = true ∧ (i.1.cls ≠ "java/lang/invoke/MethodHandle" ∧ i.1.cls ≠ "java/lang/invoke/VarHandle") ∧
  (parseMethodDescriptor i.1.desc).map (fun d => d.parameters.length) = some (if i.2.2.2.2.1 = 2 then i.2.2.2.2.2.1 else i.2.2.2.2.2.1 - 1) ∧
  Cond.code i.1 i.2.1 i.2.2.1 i.2.2.2.1 ∈ lw_g ∧ Cond.initialized i.1.cls ∈ lw_g ∧
  (i.2.2.2.2.1 = 0 → Cond.instanceMethod i.1 ∈ lw_g ∧ Cond.selects i.1.cls i.1 i.1 ∈ lw_g ∧ i.2.2.2.2.2.2.1 < 12) ∧
  (i.2.2.2.2.1 = 1 → i.1.name = "<init>" ∧ Cond.instanceMethod i.1 ∈ lw_g ∧ i.2.2.2.1 = none) ∧
  (i.2.2.2.2.1 = 2 → Cond.static i.1 ∈ lw_g) ∧ i.2.2.1 ≤ 40 ∧ i.2.2.2.2.2.1 ≤ i.2.2.1 ∧ jx_rt i.2.2.2.1 < 3 ∧
  ∀ b ∈ i.2.2.2.2.2.2.2, jx_okR i.2.1 i.2.2.2.2.2.2.1 i.2.2.1 (jx_rt i.2.2.2.1) i.2.2.2.2.1 b.1 b.2 = true
set_option maxHeartbeats 4000000 in
theorem jx_grow1 {bl : jx_B} {e0 : jx_E} {r r' : List jx_E} {ls st ls' st' : List Value} {h h1 : jx_H} (hs : jx_s bl e0 r ls st h = some (.inl (r', ls', st', h1))) : ∃ x, h1.1 = h.1 ++ x := by
  obtain ⟨pc0, op, ⟨a, b, c0, d⟩, x, L⟩ := e0
  unfold jx_s at hs
  simp only [jx_n] at hs
  split at hs
  all_goals (repeat' (split at hs))
  all_goals (first | (cases hs; exact ⟨[], (List.append_nil _).symm⟩) | (cases hs; exact ⟨[_], rfl⟩) | cases hs)
theorem jx_grow {MS : List jx_M} : ∀ (n d : Nat) (bl : jx_B) (rem : List jx_E) (ls st : List Value) (h : jx_H) (v : Option Value) (h' : jx_H), jx_x MS d n bl rem ls st h = some (v, h') → ∃ x, h'.1 = h.1 ++ x
  | 0, d, bl, rem, ls, st, h, v, h', hx => by cases hx
  | n + 1, d, bl, [], ls, st, h, v, h', hx => by cases hx
  | n + 1, d, bl, e :: r, ls, st, h, v, h', hx => by
    unfold jx_x at hx
    simp only at hx
    split at hx
    · cases hx
    · rename_i q hq
      obtain ⟨q1, q2, q3, q4⟩ := q
      obtain ⟨x1, e1⟩ := jx_grow1 hq
      obtain ⟨x2, e2⟩ := jx_grow n _ _ _ _ _ _ _ _ hx
      exact ⟨x1 ++ x2, by rw [e2]; simp only; rw [e1, List.append_assoc]⟩
    · cases hx
      exact ⟨[], (List.append_nil _).symm⟩
    · split at hx
      · split at hx
        · split at hx
          · rename_i y hy
            obtain ⟨x1, e1⟩ := jx_grow n _ _ _ _ _ _ _ _ hy
            obtain ⟨x2, e2⟩ := jx_grow n _ _ _ _ _ _ _ _ hx
            exact ⟨x1 ++ x2, by rw [e2, e1, List.append_assoc]⟩
          · cases hx
        · cases hx
      · cases hx
def jx_Bd (base : Nat) (D : va_G) (cA : Nat → ClassId) (O : Nat → va_E) (h : jx_H) (U : State) : Prop := va_P D jx_cl (jx_ws base cA O h) U.heap ∧ jx_KK D cA U ∧ U.heap.size = base + h.1.length
def jx_Qc (base : Nat) (D : va_G) (cA : Nat → ClassId) (O : Nat → va_E) (v : Option Value) (h' : jx_H) : Array Value → State → Outcome → State → Prop := fun _ st o t =>
  (o = .returned (v.map (jx_V base)) ∧ jx_Bd base D cA O h' t) ∧ va_F (fun q => base ≤ q) st t
def jx_rm (d mc ms : Nat) : Room := { frames := d + 1, cells := mc, slots := ms, locals := 64 * (d + 1) }
def jx_wsM (i : jx_M) : List Cond := Cond.code i.1 i.2.1 i.2.2.1 i.2.2.2.1 :: lw_g
def jx_MetM (l : Launch) (base : Nat) (D : va_G) (cA : Nat → ClassId) (O : Nat → va_E) (d : Nat) (i : jx_M) (as : List Value) (h : jx_H) (v : Option Value) (h' : jx_H) (x : List (Nat × Nat)) : Prop :=
  Met l i.1 (jx_wsM i) (jx_rm d x.length (jx_sz x)) (va_Pc (as.map (jx_V base)) (jx_Bd base D cA O h)) (jx_Qc base D cA O v h') x.length (jx_sz x) (fun q => base ≤ q)
theorem jx_good {m : Nat} {i : jx_M} (h : jx_okM m i) : GoodIn lw_g (jx_wsM i) := by
  intro w hw
  have hm : w ∈ lw_g := by
    rcases List.mem_cons.mp hw with rfl | hw
    · exact h.2.2.2.2.2.1
    · exact hw
  exact ⟨hm, good_of_word (List.mem_filter.mp hm).2⟩
theorem jx_blind {base : Nat} {D : va_G} {cA : Nat → ClassId} {O : Nat → va_E} {as : List Value} {h : jx_H} : FrameBlind (va_Pc as (jx_Bd base D cA O h)) := fun a U g mk q => ⟨q.1, q.2.1, jx_KK.moved (u := U) (U := U.calling g mk a) (Vm.Alike.refl U.vm) q.2.2.1, q.2.2.2⟩
section JXS
variable {p : Program} {l : Launch} {e : Env} {R : Room} {s : State} {m : MethodId} {args : Array Value} {below : List Frame} {meth : Method} {c : Code} {base : Nat} {D : va_G} {cA : Nat → ClassId} {O : Nat → va_E} {cc : ByteArray} {nL own : Nat} {Q : State → Prop} {cells slots pc : Nat} {ls st : List Value} {h : jx_H}
theorem jx_after {H : Heap} {locs : List Loc} {lsA : Array Slot} {st0 rest : List Value} {mc ms : Nat} {v : Option Value} {h1 : jx_H} {av : Array Value} (hr : va_Run p l e R s m args below meth c H locs cells slots mc ms (F0 m pc lsA st0) rest (jx_Qc base D cA O v h1 av) (fun q => base ≤ q)) (hS : va_S (fun q => base ≤ q) s.heap H locs) (hL : jx_L base ls lsA nL) (hrest : rest = st.map (jx_V base))
    (kk : jx_Go p l e R s m args below meth c base D cA O nL Q (cells + mc) (slots + ms) (pc + 3) ls (v.toList ++ st) h1) : W p l e R s m args below meth c H locs cells slots Q (F0 m pc lsA st0) := by
  intro T hT X
  obtain ⟨v', st₀, t, T', L, h0, X', hLo, e1, e2, ⟨⟨hv, hP1, hK1, hz1⟩, hz, hk⟩, stp⟩ := hr T hT X
  have hv2 : v' = v.map (jx_V base) := Outcome.returned.inj hv
  subst hv2
  rw [h0] at hz hk
  obtain ⟨t2, a1, b1⟩ := kk T'.heap (locs ++ L) lsA (by rw [e1]; exact hP1) (by rw [e1]; exact hz1)
    ⟨Nat.le_trans hS.1 (by rw [e1]; exact hz), fun q h1 h2 => by rw [e1, hk q (Nat.lt_of_lt_of_le h1 hS.1) h2]; exact hS.2.1 q h1 h2, fun q hq => by
      rcases List.mem_append.mp hq with h | h
      · exact hS.2.2 q h
      · exact hLo q h⟩ hL T' rfl X'
  refine ⟨t2, stp t2 ?_, b1⟩
  have e3 : (v.toList ++ st).map (jx_V base) = (v.map (jx_V base)).toList ++ rest := by
    rw [hrest, List.map_append]
    cases v <;> rfl
  rw [e3] at a1
  exact a1
theorem jx_cat_map (st : List Value) : ((st.map (jx_V base)).map fun v => v.category) = st.map fun v => v.category := by
  rw [List.map_map]
  exact List.map_congr_left fun v _ => jx_V_cat base v
theorem jx_callB {m0 d' : Nat} {i : jx_M} {x1 : List (Nat × Nat)} {d : Nat} (C : jx_Cx p s m args meth c base D cA cc nL own) (hi : jx_okM m0 i) (hw : Cond.methodLink (jx_nm own) d i.1 ∈ lw_g) (hfr : d' + 1 + 1 ≤ R.frames) (hlo : 64 * (d' + 1 + 1) ≤ R.locals) {n0 : Nat} (hn0 : n0 = (if i.2.2.2.2.1 = 2 then i.2.2.2.2.2.1 else i.2.2.2.2.2.1 - 1)) :
    CallB R s args (jx_nm own) d i.1 i.2.1 i.2.2.1 i.2.2.2.1 (jx_wsM i) (jx_rm d' x1.length (jx_sz x1)) x1.length (jx_sz x1) n0 := by
  have hts := C.2.2.2.2.1
  have h40 := hi.2.2.2.2.2.2.2.2.2.2.1
  refine callB_of (Ts := lw_g) n0 hts (jx_good hi) rfl rfl rfl (hts _ hi.2.2.2.2.2.2.1) (hts _ hw) ⟨hi.2.2.2.1.1, hi.2.2.2.1.2, ?_⟩ ⟨hfr, ?_⟩
  · rw [hn0]; exact hi.2.2.2.2.1
  · show 8 + (i.2.2.1 + 11) + 64 * (d' + 1) ≤ R.locals
    omega
/-- a call of a method of the small machine -/
theorem jx_call {m0 d' : Nat} {i : jx_M} {as : List Value} {h1 : jx_H} {v : Option Value} {x1 : List (Nat × Nat)} {op a b c0 d : Nat} {x : Int32} {L : List (Int32 × Nat)} {bl : jx_B} {r r' : List jx_E} {ls' st' : List Value} (C : jx_Cx p s m args meth c base D cA cc nL own) (hi : jx_okM m0 i)
    (hM : jx_MetM l base D cA O d' i as h v h1 x1) (hs : jx_s bl (pc, op, (a, b, c0, d), x, L) r ls st h = some (.inr (.inl (m0, as, r', ls', st')))) (hlen : as.length = i.2.2.2.2.2.1) (hd : decode cc pc = .ok (jx_ins (pc, op, (a, b, c0, d), x, L))) {rt kd : Nat} (hsd : jx_side own nL rt kd (pc, op, (a, b, c0, d), x, L) = true)
    (hkd : (op = 49 → i.2.2.2.2.1 = 0 ∧ c0 = i.2.2.2.2.2.2.1) ∧ (op = 50 → i.2.2.2.2.1 = 2) ∧ (op = 51 → i.2.2.2.2.1 = 1)) (hfr : d' + 1 + 1 ≤ R.frames) (hlo : 64 * (d' + 1 + 1) ≤ R.locals) (hcl : cells + x1.length ≤ R.cells) (hsl : slots + jx_sz x1 ≤ R.slots)
    (kk : jx_Go p l e R s m args below meth c base D cA O nL Q (cells + x1.length) (slots + jx_sz x1) (pc + 3) ls' (v.toList ++ st') h1) : r' = r ∧ jx_Go p l e R s m args below meth c base D cA O nL Q cells slots pc ls st h := by
  have hys : jx_ys.getD m0 ⟨"", "", ""⟩ = i.1 := by rw [List.getD_eq_getElem?_getD, hi.1]; rfl
  have hpre : ∀ (H : Heap), va_P D jx_cl (jx_ws base cA O h) H → H.size = base + h.1.length → ∀ U : State, U.heap = H → s.WarmedH U.vm → va_Pc (as.map (jx_V base)) (jx_Bd base D cA O h) (as.map (jx_V base)).toArray U := fun H hP hz U hU hW => ⟨rfl, by rw [hU]; exact hP, jx_KK.moved hW.alike C.2.2.2.2.2.1, by rw [hU]; exact hz⟩
  by_cases h49 : op = 49
  · subst h49
    simp only [jx_s] at hs
    split at hs
    · rename_i o as' hrev
      split at hs
      · rename_i hc
        simp only [Option.some.injEq, Sum.inr.injEq, Sum.inl.injEq, Prod.mk.injEq] at hs
        obtain ⟨rfl, rfl, rfl, rfl, rfl⟩ := hs
        refine ⟨rfl, fun H locs lsA hP hz hS hL => ?_⟩
        obtain ⟨hk0, hc0⟩ := hkd.1 rfl
        obtain ⟨hi1, hi2, hi3⟩ := hi.2.2.2.2.2.2.2.1 hk0
        have hw := jx_ml_in hsd
        rw [hys] at hw
        have hlb : as'.length + 1 = b := hc.2.1
        have hst : st = as'.reverse ++ .ref o :: st.drop b := by
          have h1 : st.take b = (.ref o :: as').reverse := by rw [← hrev, List.reverse_reverse]
          have h2 := List.take_append_drop b st
          rw [h1, List.reverse_cons, List.append_assoc] at h2
          exact h2.symm
        obtain ⟨hl1, lv, hl2, hl3⟩ := id hL
        refine jx_after (mc := x1.length) (ms := jx_sz x1) (rest := (st.drop b).map (jx_V base)) (va_runV (C := i.1.cls) (b := base + o) (As := as'.map (jx_V base)) (n := as'.length) (index := d) (own := jx_nm own) (Ts := lw_g) (cc := cc) (nL := nL) ⟨C.1, C.2.1, C.2.2.1, C.2.2.2.1, C.2.2.2.2.1⟩ hM ⟨jx_callB C hi hw hfr hlo (by rw [if_neg (by omega)]; rw [List.length_cons] at hlen; omega), C.2.2.2.2.1 _ hi1, C.2.2.2.2.1 _ hi2⟩ ⟨jx_blind, ?_, hpre H hP hz⟩ rfl (by rw [List.length_map]) (by show lsA.size = nL; rw [hl2.1]) ?_ ?_ hd ⟨hcl, hsl⟩) hS hL rfl kk
        · obtain ⟨T, hT⟩ := jx_cls hi3
          rw [hi.2.1, ← hc0]
          rw [← hc0] at hT
          exact va_recv C.2.2.2.2.2.1.1 hP hT (jx_obj_at hc.1)
        · show st.map (jx_V base) = _
          rw [← List.map_reverse]
          conv => lhs; rw [hst]
          rw [List.map_append]
          rfl
        · show 2 * 0 + _ ≤ 8
          rw [jx_cat_map]
          have : ((st.drop b).map fun v => v.category).sum ≤ 8 := hc.2.2
          omega
      · cases hs
    · cases hs
  · by_cases h50 : op = 50
    · subst h50
      simp only [jx_s] at hs
      split at hs
      · rename_i hc
        simp only [Option.some.injEq, Sum.inr.injEq, Sum.inl.injEq, Prod.mk.injEq] at hs
        obtain ⟨rfl, rfl, rfl, rfl, rfl⟩ := hs
        refine ⟨rfl, fun H locs lsA hP hz hS hL => ?_⟩
        have hk0 := hkd.2.1 rfl
        have hi1 := hi.2.2.2.2.2.2.2.2.2.1 hk0
        have hw := jx_ml_in hsd
        rw [hys] at hw
        obtain ⟨hl1, lv, hl2, hl3⟩ := id hL
        refine jx_after (mc := x1.length) (ms := jx_sz x1) (rest := (st.drop b).map (jx_V base)) (va_runS (As := (st.take b).reverse.map (jx_V base)) (n := (st.take b).reverse.length) (index := d) (own := jx_nm own) (Ts := lw_g) (cc := cc) (nL := nL) ⟨C.1, C.2.1, C.2.2.1, C.2.2.2.1, C.2.2.2.2.1⟩ hM ⟨jx_callB C hi hw hfr hlo (by rw [if_pos hk0]; exact hlen), C.2.2.2.2.1 _ hi1⟩ ⟨jx_blind, hpre H hP hz⟩ rfl (by rw [List.length_map]) (by show lsA.size = nL; rw [hl2.1]) ?_ ?_ hd ⟨hcl, hsl⟩) hS hL rfl kk
        · show st.map (jx_V base) = _
          rw [← List.map_reverse, List.reverse_reverse, ← List.map_append, List.take_append_drop]
        · show 2 * 0 + _ ≤ 8
          rw [jx_cat_map]
          have : ((st.drop b).map fun v => v.category).sum ≤ 8 := hc.2
          omega
      · cases hs
    · by_cases h51 : op = 51
      · subst h51
        simp only [jx_s] at hs
        split at hs
        · rename_i o as' hrev
          split at hs
          · rename_i hc
            simp only [Option.some.injEq, Sum.inr.injEq, Sum.inl.injEq, Prod.mk.injEq] at hs
            obtain ⟨rfl, rfl, rfl, rfl, rfl⟩ := hs
            refine ⟨rfl, fun H locs lsA hP hz hS hL => ?_⟩
            have hk0 := hkd.2.2 rfl
            obtain ⟨hi1, hi2, hi3⟩ := hi.2.2.2.2.2.2.2.2.1 hk0
            have hw := jx_ml_in hsd
            rw [hys] at hw
            have hst : st = as'.reverse ++ .ref o :: st.drop b := by
              have h1 : st.take b = (.ref o :: as').reverse := by rw [← hrev, List.reverse_reverse]
              have h2 := List.take_append_drop b st
              rw [h1, List.reverse_cons, List.append_assoc] at h2
              exact h2.symm
            obtain ⟨hl1, lv, hl2, hl3⟩ := id hL
            have hcb := jx_callB (x1 := x1) C hi hw hfr hlo (n0 := as'.length) (by rw [if_neg (by omega)]; rw [List.length_cons] at hlen; omega)
            rw [hi3] at hcb
            refine jx_after (mc := x1.length) (ms := jx_sz x1) (rest := (st.drop b).map (jx_V base)) (va_runI (b := base + o) (As := as'.map (jx_V base)) (n := as'.length) (index := d) (own := jx_nm own) (Ts := lw_g) (cc := cc) (nL := nL) ⟨C.1, C.2.1, C.2.2.1, C.2.2.2.1, C.2.2.2.2.1⟩ hM ⟨hcb, hi1, C.2.2.2.2.1 _ hi2⟩ ⟨jx_blind, hpre H hP hz⟩ rfl (by rw [List.length_map]) (by show lsA.size = nL; rw [hl2.1]) ?_ ?_ hd ⟨hcl, hsl⟩) hS hL rfl kk
            · show st.map (jx_V base) = _
              rw [← List.map_reverse]
              conv => lhs; rw [hst]
              rw [List.map_append]
              rfl
            · show 2 * 0 + _ ≤ 8
              rw [jx_cat_map]
              have : ((st.drop b).map fun v => v.category).sum ≤ 8 := hc.2
              omega
          · cases hs
        · cases hs
      · exfalso
        unfold jx_s at hs
        simp only [jx_n] at hs
        split at hs
        all_goals (first | (exact absurd rfl h49) | (exact absurd rfl h50) | (exact absurd rfl h51) | (repeat' (split at hs)))
        all_goals (first | cases hs | skip)
end JXS
