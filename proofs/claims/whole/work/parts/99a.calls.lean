/-! ===== contracts out of the small machine; calls from frames of the law ===== -/
theorem jx_MetOf (l : Launch) {base : Nat} {D : va_G} {cA : Nat → ClassId} {O : Nat → va_E} {d k0 : Nat} {i1 : jx_M} {as : List Value} {h h1 : jx_H} {v : Option Value} {x : List (Nat × Nat)} (hsp : jx_Sp d k0 as h (fun v' h' => v' = v ∧ h' = h1)) (hi : jm_MS[k0]? = some i1) (hG : x ≠ [] → jx_G O = 0) (hx : h1.1 = h.1 ++ x) : jx_MetM l base D cA O d i1 as h v h1 x ∧ as.length = i1.2.2.2.2.2.1 := by
  obtain ⟨i', hi', hlen, hall, n, v', h', hy, rfl, rfl⟩ := hsp
  cases Option.some.inj (hi'.symm.trans hi)
  have hi1 := jm_MS_ok _ _ hi
  refine ⟨?_, hlen⟩
  unfold jx_MetM
  refine Met.ofW (cc := i1.2.1) (maxL := i1.2.2.1) (ret := i1.2.2.2.1) hi1.2.2.1 rfl ?_
  intro p e s m args below meth c s₁ B hml hv
  obtain ⟨rfl, hP, hK, hz⟩ := hv
  have hts := atoms_spec (ws := jx_wsM i1) B.pre
  have hown : s.vm.findClass (jx_nm i1.2.2.2.2.2.2.1) = some m.cls := by
    rw [← hi1.2.1]
    exact findClass_of_methodNamed B.named
  have hna : as.length ≤ i1.2.2.1 := by rw [hlen]; exact hi1.2.2.2.2.2.2.2.2.2.2.2.1
  have C1 : jx_Cx p s m (as.map (jx_V base)).toArray meth c base D cA i1.2.1 i1.2.2.1 i1.2.2.2.2.2.2.1 := ⟨B.exec, B.bytes, hml, hown, fun w hw => hts w (List.mem_cons_of_mem _ hw), hK, by rw [hz]; omega⟩
  have g1 := jx_sound jm_MS_ok l n d _ i1 hi1 _ _ _ h v' h' hy p e (jx_rm d x.length (jx_sz x)) s m (as.map (jx_V base)).toArray below meth c C1 B.returns B.notSynchronized (fun hk => by rw [(name_of_methodNamed B.named B.method).1]; exact (hi1.2.2.2.2.2.2.2.2.1 hk).1) (Nat.le_refl _) (Nat.le_refl _) x 0 0 0 hG hx (Nat.zero_add _).symm (Nat.zero_add _).symm (jx_at_ok hi1.2.2.2.2.2.2.2.2.2.2.2.2.2.2 0)
  rw [lg_entry_eq]
  exact g1 s.heap [] _ hP hz va_S.rf (jx_L_entry hall hna)
theorem jx_Sp_ex {d k0 : Nat} {as : List Value} {h : jx_H} {v : Option Value} {Rr : jx_H → Prop} (hsp : jx_Sp d k0 as h (fun v' h' => v' = v ∧ Rr h')) : ∃ h1, Rr h1 ∧ jx_Sp d k0 as h (fun v' h' => v' = v ∧ h' = h1) := by
  obtain ⟨i', hi', hlen, hall, n, v', h', hy, hv, hr⟩ := hsp
  exact ⟨h', hr, i', hi', hlen, hall, n, v', h', hy, hv, rfl⟩
/-- a frame that isn't the small machine's: what stands there and doesn't change -/
def lc_C (p : Program) (s : State) (m : MethodId) (args : Array Value) (c : Code) (base : Nat) (D : va_G) (cA : Nat → ClassId) (cc : ByteArray) (nL : Nat) (own : String) : Prop :=
  p.tables.exec = Jvm.exec ∧ c.code = cc ∧ c.maxLocals = nL ∧ s.vm.findClass own = some m.cls ∧ (∀ w ∈ lw_g, w.before args s = true) ∧ jx_KK D cA s ∧ base ≤ s.heap.size
section LCA
variable {p : Program} {l : Launch} {e : Env} {R : Room} {s : State} {m : MethodId} {args : Array Value} {below : List Frame} {meth : Method} {c : Code} {base : Nat} {D : va_G} {cA : Nat → ClassId} {O : Nat → va_E} {cc : ByteArray} {nL : Nat} {own : String} {Q : State → Prop} {cells slots pc : Nat} {h h1 : jx_H} {H : Heap} {locs : List Loc} {lsA : Array Slot} {rest : List Value}
theorem lc_after {st0 : List Value} {mc ms : Nat} {v : Option Value} {av : Array Value} (hr : va_Run p l e R s m args below meth c H locs cells slots mc ms (F0 m pc lsA st0) rest (jx_Qc base D cA O v h1 av) (fun q => base ≤ q)) (hS : va_S (fun q => base ≤ q) s.heap H locs)
    (kk : ∀ (H1 : Heap) (locs1 : List Loc), va_P D jx_cl (jx_ws base cA O h1) H1 → H1.size = base + h1.1.length + jx_G O → va_S (fun q => base ≤ q) s.heap H1 locs1 → W p l e R s m args below meth c H1 locs1 (cells + mc) (slots + ms) Q (F0 m (pc + 3) lsA ((v.map (jx_V base)).toList ++ rest))) : W p l e R s m args below meth c H locs cells slots Q (F0 m pc lsA st0) := by
  intro T hT X
  obtain ⟨v', st₀, t, T', L, h0, X', hLo, e1, e2, ⟨⟨hv, hP1, hK1, hz1⟩, hz, hk⟩, stp⟩ := hr T hT X
  have hv2 : v' = v.map (jx_V base) := Outcome.returned.inj hv
  subst hv2
  rw [h0] at hz hk
  obtain ⟨t2, a1, b1⟩ := kk T'.heap (locs ++ L) (by rw [e1]; exact hP1) (by rw [e1]; exact hz1)
    ⟨Nat.le_trans hS.1 (by rw [e1]; exact hz), fun q h1 h2 => by rw [e1, hk q (Nat.lt_of_lt_of_le h1 hS.1) h2]; exact hS.2.1 q h1 h2, fun q hq => by
      rcases List.mem_append.mp hq with h | h
      · exact hS.2.2 q h
      · exact hLo q h⟩ T' rfl X'
  exact ⟨t2, stp t2 a1, b1⟩
theorem lc_callB {k0 idx d : Nat} {i1 : jx_M} {x : List (Nat × Nat)} (C : lc_C p s m args c base D cA cc nL own) (hi : jx_okM k0 i1) (hw : (Cond.methodLink own idx i1.1).before args s = true) (hfr : d + 2 ≤ R.frames) (hlo : 64 * (d + 2) ≤ R.locals) {n0 : Nat} (hn0 : n0 = (if i1.2.2.2.2.1 = 2 then i1.2.2.2.2.2.1 else i1.2.2.2.2.2.1 - 1)) :
    CallB R s args own idx i1.1 i1.2.1 i1.2.2.1 i1.2.2.2.1 (jx_wsM i1) (jx_rm d x.length (jx_sz x)) x.length (jx_sz x) n0 := by
  have hts := C.2.2.2.2.1
  have h40 := hi.2.2.2.2.2.2.2.2.2.2.1
  refine callB_of (Ts := lw_g) n0 hts (jx_good hi) rfl rfl rfl (hts _ hi.2.2.2.2.2.2.1) hw ⟨hi.2.2.2.1.1, hi.2.2.2.1.2, ?_⟩ ⟨hfr, ?_⟩
  · rw [hn0]; exact hi.2.2.2.2.1
  · show 8 + (i1.2.2.1 + 11) + 64 * (d + 1) ≤ R.locals
    omega
theorem lc_callV {k0 idx d o : Nat} {i1 : jx_M} {as : List Value} {v : Option Value} (C : lc_C p s m args c base D cA cc nL own) (hi : jm_MS[k0]? = some i1) (hk : i1.2.2.2.2.1 = 0) (hsp : jx_Sp d k0 (.ref o :: as) h (fun v' h' => v' = v ∧ h' = h1)) (hl1 : h1.1 = h.1) (ho : h.1[o]? = some (10 + i1.2.2.2.2.2.2.1, jx_N i1.2.2.2.2.2.2.1))
    (hw : (Cond.methodLink own idx i1.1).before args s = true) (hd : decode cc pc = .ok (.invokevirtual idx, 3)) (hfr : d + 2 ≤ R.frames) (hlo : 64 * (d + 2) ≤ R.locals) (hc : cells ≤ R.cells) (hs : slots ≤ R.slots) (hls : lsA.size = nL) (hr : (rest.map fun v => v.category).sum ≤ 8)
    (hP : va_P D jx_cl (jx_ws base cA O h) H) (hz : H.size = base + h.1.length + jx_G O) (hS : va_S (fun q => base ≤ q) s.heap H locs) {st0 : List Value} (hst : st0 = (as.map (jx_V base)).reverse ++ .ref (base + o) :: rest)
    (kk : ∀ (H1 : Heap) (locs1 : List Loc), va_P D jx_cl (jx_ws base cA O h1) H1 → H1.size = base + h1.1.length + jx_G O → va_S (fun q => base ≤ q) s.heap H1 locs1 → W p l e R s m args below meth c H1 locs1 cells slots Q (F0 m (pc + 3) lsA ((v.map (jx_V base)).toList ++ rest))) : W p l e R s m args below meth c H locs cells slots Q (F0 m pc lsA st0) := by
  obtain ⟨hM, hlen⟩ := jx_MetOf l (base := base) (D := D) (cA := cA) (O := O) (x := []) hsp hi (fun z => absurd rfl z) (by rw [hl1, List.append_nil])
  have hok := jm_MS_ok _ _ hi
  obtain ⟨hi1, hi2, hi3⟩ := hok.2.2.2.2.2.2.2.1 hk
  refine lc_after (mc := 0) (ms := 0) (va_runV (C := i1.1.cls) (b := base + o) (As := as.map (jx_V base)) (n := as.length) (index := idx) (own := own) (Ts := lw_g) (cc := cc) (nL := nL) ⟨C.1, C.2.1, C.2.2.1, C.2.2.2.1, C.2.2.2.2.1⟩ hM ⟨lc_callB C hok hw hfr hlo (by rw [if_neg (by omega)]; rw [List.length_cons] at hlen; omega), C.2.2.2.2.1 _ hi1, C.2.2.2.2.1 _ hi2⟩ ⟨jx_blind, ?_, fun U hU hW => ⟨rfl, by rw [hU]; exact hP, jx_KK.moved hW.alike C.2.2.2.2.2.1, by rw [hU]; exact hz⟩⟩ rfl (by rw [List.length_map]) hls hst ?_ hd ⟨hc, hs⟩) hS kk
  · obtain ⟨T, hT⟩ := jx_cls hi3
    rw [hok.2.1]
    exact va_recv C.2.2.2.2.2.1.1 hP hT (jx_obj_at ho)
  · show 2 * 0 + _ ≤ 8
    omega
theorem lc_callI {k0 idx d o : Nat} {i1 : jx_M} {as : List Value} {x : List (Nat × Nat)} (C : lc_C p s m args c base D cA cc nL own) (hG : jx_G O = 0) (hi : jm_MS[k0]? = some i1) (hk : i1.2.2.2.2.1 = 1) (hsp : jx_Sp d k0 (.ref o :: as) h (fun v' h' => v' = none ∧ h' = h1)) (hl1 : h1.1 = h.1 ++ x)
    (hw : (Cond.methodLink own idx i1.1).before args s = true) (hd : decode cc pc = .ok (.invokespecial idx, 3)) (hfr : d + 2 ≤ R.frames) (hlo : 64 * (d + 2) ≤ R.locals) (hc : cells + x.length ≤ R.cells) (hs : slots + jx_sz x ≤ R.slots) (hls : lsA.size = nL) (hr : (rest.map fun v => v.category).sum ≤ 8)
    (hP : va_P D jx_cl (jx_ws base cA O h) H) (hz : H.size = base + h.1.length + jx_G O) (hS : va_S (fun q => base ≤ q) s.heap H locs) {st0 : List Value} (hst : st0 = (as.map (jx_V base)).reverse ++ .ref (base + o) :: rest)
    (kk : ∀ (H1 : Heap) (locs1 : List Loc), va_P D jx_cl (jx_ws base cA O h1) H1 → H1.size = base + h1.1.length + jx_G O → va_S (fun q => base ≤ q) s.heap H1 locs1 → W p l e R s m args below meth c H1 locs1 (cells + x.length) (slots + jx_sz x) Q (F0 m (pc + 3) lsA rest)) : W p l e R s m args below meth c H locs cells slots Q (F0 m pc lsA st0) := by
  obtain ⟨hM, hlen⟩ := jx_MetOf l (base := base) (D := D) (cA := cA) (O := O) (x := x) hsp hi (fun _ => hG) hl1
  have hok := jm_MS_ok _ _ hi
  obtain ⟨hi1, hi2, hi3⟩ := hok.2.2.2.2.2.2.2.2.1 hk
  have hcb := lc_callB (x := x) C hok hw hfr hlo (n0 := as.length) (by rw [if_neg (by omega)]; rw [List.length_cons] at hlen; omega)
  rw [hi3] at hcb
  refine lc_after (mc := x.length) (ms := jx_sz x) (va_runI (b := base + o) (As := as.map (jx_V base)) (n := as.length) (index := idx) (own := own) (Ts := lw_g) (cc := cc) (nL := nL) ⟨C.1, C.2.1, C.2.2.1, C.2.2.2.1, C.2.2.2.2.1⟩ hM ⟨hcb, hi1, C.2.2.2.2.1 _ hi2⟩ ⟨jx_blind, fun U hU hW => ⟨rfl, by rw [hU]; exact hP, jx_KK.moved hW.alike C.2.2.2.2.2.1, by rw [hU]; exact hz⟩⟩ rfl (by rw [List.length_map]) hls hst ?_ hd ⟨hc, hs⟩) hS kk
  show 2 * 0 + _ ≤ 8
  omega
end LCA
/-! what the law sees of both sides -/
def lsW (h : jx_H) (σ τ : jT) : Prop := (∀ i, i < 95 → h.1[i]? = jLAY[i]?) ∧ (∀ q ∈ jPtab, h.2.1 q.1 = .ref q.2) ∧ (∀ i, i < 4160 → h.2.2.1 i = σ.1 i) ∧ (∀ i, 4160 ≤ i → i < 6080 → h.2.2.1 i = τ.1 i) ∧ (∀ o, o < 65 → h.2.2.2 o = σ.2 o) ∧ ∀ o, 65 ≤ o → o < 95 → h.2.2.2 o = τ.2 o
def lsC (h : jx_H) : jS := (0, 65, h.1, h.2.1, h.2.2.1, h.2.2.2)
def lsM (h : jx_H) : jS := (65, 95, h.1, h.2.1, h.2.2.1, h.2.2.2)
theorem lsC_ok {h : jx_H} {σ τ : jT} (hL : lsW h σ τ) : jCok (lsC h) := ⟨rfl, rfl, hL.1, hL.2.1⟩
theorem lsM_ok {h : jx_H} {σ τ : jT} (hL : lsW h σ τ) : jMok (lsM h) := ⟨rfl, rfl, hL.1, hL.2.1⟩
theorem lsC_h {h : jx_H} {σ τ : jT} (hL : lsW h σ τ) : jh (lsC h) σ = h := by
  obtain ⟨l1, l2, l3, l4, l5, l6⟩ := hL
  show (h.1, h.2.1, (fun i => if 64 * 0 ≤ i ∧ i < 64 * 65 then σ.1 i else h.2.2.1 i), fun o j => if 0 ≤ o ∧ o < 65 then σ.2 o j else h.2.2.2 o j) = (h.1, h.2.1, h.2.2.1, h.2.2.2)
  congr 3
  · funext i
    by_cases q : 64 * 0 ≤ i ∧ i < 64 * 65
    · rw [if_pos q, l3 i (by omega)]
    · rw [if_neg q]
  · funext o j
    by_cases q : 0 ≤ o ∧ o < 65
    · rw [if_pos q, l5 o (by omega)]
    · rw [if_neg q]
theorem lsM_h {h : jx_H} {σ τ : jT} (hL : lsW h σ τ) : jh (jSrd (lsM h) (h.2.1 4173)) τ = h := by
  obtain ⟨l1, l2, l3, l4, l5, l6⟩ := hL
  show (h.1, jx_up h.2.1 4173 (h.2.1 4173), (fun i => if 64 * 65 ≤ i ∧ i < 64 * 95 then τ.1 i else h.2.2.1 i), fun o j => if 65 ≤ o ∧ o < 95 then τ.2 o j else h.2.2.2 o j) = (h.1, h.2.1, h.2.2.1, h.2.2.2)
  congr 2
  · funext i
    unfold jx_up
    by_cases q : i = 4173
    · rw [if_pos q, q]
    · rw [if_neg q]
  · congr 1
    · funext i
      by_cases q : 64 * 65 ≤ i ∧ i < 64 * 95
      · rw [if_pos q, l4 i (by omega) (by omega)]
      · rw [if_neg q]
    · funext o j
      by_cases q : 65 ≤ o ∧ o < 95
      · rw [if_pos q, l6 o (by omega) (by omega)]
      · rw [if_neg q]
theorem lsW_c {h : jx_H} {σ τ : jT} (σ' : jT) (hL : lsW h σ τ) : lsW (jh (lsC h) σ') σ' τ := by
  obtain ⟨l1, l2, l3, l4, l5, l6⟩ := hL
  refine ⟨l1, l2, fun i hi => ?_, fun i h1 h2 => ?_, fun o ho => ?_, fun o h1 h2 => ?_⟩
  · exact if_pos (⟨by omega, by omega⟩ : 64 * 0 ≤ i ∧ i < 64 * 65)
  · exact (if_neg (fun q : 64 * 0 ≤ i ∧ i < 64 * 65 => by omega)).trans (l4 i h1 h2)
  · exact funext fun j => if_pos (⟨by omega, by omega⟩ : 0 ≤ o ∧ o < 65)
  · exact funext fun j => (if_neg (fun q : 0 ≤ o ∧ o < 65 => by omega)).trans (congrFun (l6 o h1 h2) j)
theorem lsW_m {h : jx_H} {σ τ : jT} (τ' : jT) (rd : Value) (hL : lsW h σ τ) : lsW (jh (jSrd (lsM h) rd) τ') σ τ' := by
  have hok := jSrd_ok (lsM_ok hL) rd
  obtain ⟨l1, l2, l3, l4, l5, l6⟩ := hL
  refine ⟨l1, hok.2.2.2, fun i hi => ?_, fun i h1 h2 => ?_, fun o ho => ?_, fun o h1 h2 => ?_⟩
  · exact (if_neg (fun q : 64 * 65 ≤ i ∧ i < 64 * 95 => by omega)).trans (l3 i hi)
  · exact if_pos (⟨by omega, by omega⟩ : 64 * 65 ≤ i ∧ i < 64 * 95)
  · exact funext fun j => (if_neg (fun q : 65 ≤ o ∧ o < 95 => by omega)).trans (congrFun (l5 o ho) j)
  · exact funext fun j => if_pos (⟨by omega, by omega⟩ : 65 ≤ o ∧ o < 95)
/-- a call of the class: what it leaves -/
theorem sp_c {h : jx_H} {σ τ : jT} (hL : lsW h σ τ) {d k0 : Nat} {as : List Value} {r : Int32} {σ' : jT} (t : jx_Sp d k0 as (jh (lsC h) σ) (fun v' h' => v' = some (.int r) ∧ h' = jh (lsC h) σ')) : ∃ h1, jx_Sp d k0 as h (fun v' h' => v' = some (.int r) ∧ h' = h1) ∧ h1.1 = h.1 ∧ lsW h1 σ' τ := by
  rw [lsC_h hL] at t
  exact ⟨_, t, rfl, lsW_c σ' hL⟩
theorem sp_m {h : jx_H} {σ τ : jT} (hL : lsW h σ τ) {d k0 : Nat} {as : List Value} {r : Int32} {τ' : jT} (t : jx_Sp d k0 as (jh (jSrd (lsM h) (h.2.1 4173)) τ) (fun v' h' => v' = some (.int r) ∧ ∃ rd, h' = jh (jSrd (lsM h) rd) τ')) : ∃ h1, jx_Sp d k0 as h (fun v' h' => v' = some (.int r) ∧ h' = h1) ∧ h1.1 = h.1 ∧ lsW h1 σ τ' := by
  rw [lsM_h hL] at t
  obtain ⟨h1, ⟨rd, rfl⟩, t1⟩ := jx_Sp_ex t
  exact ⟨_, t1, rfl, lsW_m τ' rd hL⟩
