/-! ===== place, rider, row of the class: they answer or they throw ===== -/
def nx_N : String := "java/util/NoSuchElementException"
def nx_L : List Cond := (nx_at "OfDifferentMinds" 168 nx_N 13 prog_22_method_4_code "java/lang/RuntimeException" ["java/lang/Exception"]).filter vx_no
def nx_B : List Cond := [.declares ⟨"java/lang/RuntimeException", "<init>", "(Ljava/lang/String;)V"⟩, .declares ⟨"java/lang/Exception", "<init>", "(Ljava/lang/String;)V"⟩, .declares ⟨"java/lang/Throwable", "<init>", "(Ljava/lang/String;)V"⟩, .castable nx_N nx_N]
set_option maxHeartbeats 4000000 in
theorem nx_L_g : ∀ w ∈ nx_L.filter goodWord, w ∈ lw_g := by decide +kernel
set_option maxHeartbeats 4000000 in
theorem nx_L_b : ∀ w ∈ nx_L.filter (fun w => !goodWord w), w ∈ nx_B := by decide +kernel
set_option maxHeartbeats 4000000 in
theorem nx_L_o : ∀ w ∈ Cond.classLink "OfDifferentMinds" 164 nx_N :: Cond.initialized nx_N :: nx_L, vx_ot w = true := by decide +kernel
theorem nx_k_in : Cond.classLink "OfDifferentMinds" 164 nx_N ∈ lw_g := by decide +kernel
theorem nx_i_in : Cond.initialized nx_N ∈ lw_g := by decide +kernel
/-- what a throw needs besides the tables' words -/
def nx_P (base : Nat) (sa : Nat → Nat) (U : State) : Prop := (∀ w ∈ nx_B, va_Nw w U) ∧ vk_R "OfDifferentMinds" 166 "no such place" (sa 0) U ∧ vk_R "OfDifferentMinds" 189 "no such rider" (sa 1) U ∧ vk_R "OfDifferentMinds" 469 "no such number" (sa 2) U ∧
  vx_Zq Bundle.tN "UNASSIGNED_STACK" Bundle.steD (fun q => base ≤ q) U U.heap ∧ vx_Zq Bundle.tN "SUPPRESSED_SENTINEL" Bundle.listD (fun q => base ≤ q) U U.heap
theorem nx_P.warm {base : Nat} {sa : Nat → Nat} {s U : State} (hW : s.WarmedH U.vm) (hq : ∀ a : Nat, a < s.heap.size → ¬ base ≤ a → U.heap[a]? = s.heap[a]?) (h : nx_P base sa s) : nx_P base sa U := by
  obtain ⟨h1, h2, h3, h4, h5, h6⟩ := h
  refine ⟨fun w hw => ?_, vk_R.warm hW h2, vk_R.warm hW h3, vk_R.warm hW h4, (vx_Zq.moved hW.alike h5).kept hq, (vx_Zq.moved hW.alike h6).kept hq⟩
  have h := h1 w hw
  simp only [nx_B, List.mem_cons, List.not_mem_nil, or_false] at hw
  rcases hw with rfl | rfl | rfl | rfl
  · exact va_Nw.warmD hW h
  · exact va_Nw.warmD hW h
  · exact va_Nw.warmD hW h
  · exact va_Nw.warmC hW h
theorem nx_hat {args : Array Value} {s : State} {base : Nat} {sa : Nat → Nat} (hts : ∀ w ∈ lw_g, w.before args s = true) (h : nx_P base sa s) : ∀ w ∈ nx_L, w.before args s = true :=
  vx_hat (B := nx_B) (fun w hw => hts w (nx_L_g w hw)) nx_L_b (fun w hw => va_Nw.use (by
    simp only [nx_B, List.mem_cons, List.not_mem_nil, or_false] at hw
    rcases hw with rfl | rfl | rfl | rfl <;> rfl) (h.1 w hw))
/-- what is left when one of them has thrown -/
def nx_X (base : Nat) (D : va_G) (cA : Nat → ClassId) (O : Nat → va_E) (h : jx_H) : String → State → State → Prop := vx_X (fun _ : Unit => True) (fun E _ t => E = nx_N ∧ va_P D jx_cl (jx_ws base cA O h) t.heap ∧ base + h.1.length + jx_G O ≤ t.heap.size) (fun q => base ≤ q)
def nx_Q (base : Nat) : Array Value → State → Outcome → State → Prop := va_Qi (fun _ (_ : Unit) => False) (fun _ _ => True) (fun q => base ≤ q)
def nx_Bd (base : Nat) (D : va_G) (cA : Nat → ClassId) (O : Nat → va_E) (h : jx_H) (sa : Nat → Nat) (U : State) : Prop := jx_Bd base D cA O h U ∧ nx_P base sa U
/-- a method that throws -/
def nx_Met (l : Launch) (base : Nat) (D : va_G) (cA : Nat → ClassId) (O : Nat → va_E) (i : jx_M) (as : List Value) (h : jx_H) (sa : Nat → Nat) : Prop :=
  vx_Met l i.1 (jx_wsM i) (jx_rm 6 1 6) (va_Pc (as.map (jx_V base)) (nx_Bd base D cA O h sa)) (nx_Q base) (nx_X base D cA O h) 1 6 (fun q => base ≤ q)
/-- the tests before: on to pg where it's good, else to pb -/
def nx_Pre (i : jx_M) (as : List Value) (h : jx_H) (good : Prop) (pg pb : Nat) : Prop := ∀ (p : Program) (l : Launch) (e : Env) (R : Room) (s : State) (m : MethodId) (args : Array Value) (below : List Frame) (meth : Method) (c : Code) (base : Nat) (D : va_G) (cA : Nat → ClassId) (O : Nat → va_E) (Q : State → Prop),
  jx_Cx p s m args meth c base D cA i.2.1 i.2.2.1 10 → 6 ≤ R.frames → 64 * 6 ≤ R.locals → (good → jx_Go p l e R s m args below meth c base D cA O i.2.2.1 Q 0 0 pg as [] h) → (¬ good → jx_Go p l e R s m args below meth c base D cA O i.2.2.1 Q 0 0 pb as [] h) → jx_Go p l e R s m args below meth c base D cA O i.2.2.1 Q 0 0 0 as [] h
theorem nx_has {x : Int32} {σ : jT} : ∃ b, f_X3_hasPlace x σ = some (b, σ) := by
  unfold f_X3_hasPlace
  repeat' split
  all_goals exact ⟨_, rfl⟩
theorem nx_hasR {x : Int32} {σ : jT} : ∃ b, f_X3_hasRider x σ = some (b, σ) := by
  unfold f_X3_hasRider
  repeat' split
  all_goals exact ⟨_, rfl⟩
theorem nx_place {h : jx_H} {σ τ : jT} (hL : lsW h σ τ) (x y : Int32) : nx_Pre jm_i1135 [.ref 0, .int x, .int y] h ((∃ b, f_X3_hasPlace x σ = some (b, σ) ∧ ¬ b = 0) ∧ ¬ y < 0 ∧ y ≤ 5) 30 20 := by
  intro p l e R s m args below meth c base D cA O Q C hfr hlo kg kb
  obtain ⟨b, hb⟩ := nx_has (x := x) (σ := σ)
  have hu : (∃ b, f_X3_hasPlace x σ = some (b, σ) ∧ ¬ b = 0) ↔ ¬ b = 0 := ⟨fun ⟨b', e1, e2⟩ => by rw [hb] at e1; cases e1; exact e2, fun z => ⟨b, hb, z⟩⟩
  rw [hu] at kg kb
  have hsp := t_X3_hasPlace (lsC_ok hL) (d := 0) (Q := fun v' h' => v' = some (.int b) ∧ h' = h) ⟨(b, σ), hb, rfl, lsC_h hL⟩
  rw [lsC_h hL] at hsp
  have h0 : h.1[0]? = some (20, 14) := hL.1 0 (by decide)
  have h3 : h.1[3]? = some (13, jx_N 3) := hL.1 3 (by decide)
  have hg : h.2.1 1 = .ref 3 := hL.2.1 (1, 3) (by decide)
  refine jx_aload_n C (i := 0) (by decide) (by decide +kernel) rfl ?_
  refine jx_get C (a := 10) (b := 1) (d := 19) (by decide) (by decide) h0 (jx_fl_in (by decide +kernel)) (by decide +kernel) (v := .ref 3) ?_ ?_
  · unfold jx_f
    rw [if_pos (by decide), if_pos (by decide +kernel)]
    show jx_V base (h.2.1 1) = _
    rw [hg]
  refine jx_iload_n C (i := 1) (by decide) (by decide +kernel) rfl ?_
  have hi : jm_MS[30]? = some jm_i30 := rfl
  obtain ⟨hM, hlen⟩ := jx_MetOf l (base := base) (D := D) (cA := cA) (O := O) (x := []) hsp hi (fun z => absurd rfl z) (List.append_nil _).symm
  refine (jx_call (m0 := 30) (op := 49) (a := 30) (b := 2) (c0 := 3) (d := 161) (x := 0) (L := []) (bl := jm_l1135) (r := []) C (jm_MS_ok _ _ hi) hM (r' := []) (ls' := [.ref 0, .int x, .int y]) (st' := []) (by simp [jx_s, h3]) hlen (by decide +kernel) (rt := 1) (kd := 0) (by decide +kernel) (by omega) (by omega) (Nat.zero_le _) (Nat.zero_le _) ?_).2
  refine jx_if_eq C (a := 20) (by decide +kernel) (fun q => kb (fun z => z.1 q)) (fun q1 => ?_)
  refine jx_iload_n C (i := 2) (by decide) (by decide +kernel) rfl ?_
  refine jx_if_lt C (a := 20) (by decide +kernel) (fun q => kb (fun z => z.2.1 q)) (fun q2 => ?_)
  refine jx_iload_n C (i := 2) (by decide) (by decide +kernel) rfl ?_
  refine jx_iconst C (x := 5) (by decide +kernel) ?_
  exact jx_icmp_le C (a := 30) (by decide +kernel) (fun q => kg ⟨q1, q2, q⟩) (fun q => kb (fun z => q z.2.2))
theorem nx_rider {h : jx_H} {σ τ : jT} (hL : lsW h σ τ) (x y : Int32) : nx_Pre jm_i1137 [.ref 0, .int x, .int y] h ((∃ b, f_X3_hasRider x σ = some (b, σ) ∧ ¬ b = 0) ∧ ¬ y < 0 ∧ y ≤ 5) 30 20 := by
  intro p l e R s m args below meth c base D cA O Q C hfr hlo kg kb
  obtain ⟨b, hb⟩ := nx_hasR (x := x) (σ := σ)
  have hu : (∃ b, f_X3_hasRider x σ = some (b, σ) ∧ ¬ b = 0) ↔ ¬ b = 0 := ⟨fun ⟨b', e1, e2⟩ => by rw [hb] at e1; cases e1; exact e2, fun z => ⟨b, hb, z⟩⟩
  rw [hu] at kg kb
  have hsp := t_X3_hasRider (lsC_ok hL) (d := 0) (Q := fun v' h' => v' = some (.int b) ∧ h' = h) ⟨(b, σ), hb, rfl, lsC_h hL⟩
  rw [lsC_h hL] at hsp
  have h0 : h.1[0]? = some (20, 14) := hL.1 0 (by decide)
  have h3 : h.1[3]? = some (13, jx_N 3) := hL.1 3 (by decide)
  have hg : h.2.1 1 = .ref 3 := hL.2.1 (1, 3) (by decide)
  refine jx_aload_n C (i := 0) (by decide) (by decide +kernel) rfl ?_
  refine jx_get C (a := 10) (b := 1) (d := 19) (by decide) (by decide) h0 (jx_fl_in (by decide +kernel)) (by decide +kernel) (v := .ref 3) ?_ ?_
  · unfold jx_f
    rw [if_pos (by decide), if_pos (by decide +kernel)]
    show jx_V base (h.2.1 1) = _
    rw [hg]
  refine jx_iload_n C (i := 1) (by decide) (by decide +kernel) rfl ?_
  have hi : jm_MS[31]? = some jm_i31 := rfl
  obtain ⟨hM, hlen⟩ := jx_MetOf l (base := base) (D := D) (cA := cA) (O := O) (x := []) hsp hi (fun z => absurd rfl z) (List.append_nil _).symm
  refine (jx_call (m0 := 31) (op := 49) (a := 31) (b := 2) (c0 := 3) (d := 186) (x := 0) (L := []) (bl := jm_l1137) (r := []) C (jm_MS_ok _ _ hi) hM (r' := []) (ls' := [.ref 0, .int x, .int y]) (st' := []) (by simp [jx_s, h3]) hlen (by decide +kernel) (rt := 1) (kd := 0) (by decide +kernel) (by omega) (by omega) (Nat.zero_le _) (Nat.zero_le _) ?_).2
  refine jx_if_eq C (a := 20) (by decide +kernel) (fun q => kb (fun z => z.1 q)) (fun q1 => ?_)
  refine jx_iload_n C (i := 2) (by decide) (by decide +kernel) rfl ?_
  refine jx_if_lt C (a := 20) (by decide +kernel) (fun q => kb (fun z => z.2.1 q)) (fun q2 => ?_)
  refine jx_iload_n C (i := 2) (by decide) (by decide +kernel) rfl ?_
  refine jx_iconst C (x := 5) (by decide +kernel) ?_
  exact jx_icmp_le C (a := 30) (by decide +kernel) (fun q => kg ⟨q1, q2, q⟩) (fun q => kb (fun z => q z.2.2))
theorem nx_row {h : jx_H} {σ τ : jT} (hL : lsW h σ τ) (x : Int32) : nx_Pre jm_i1198 [.ref 0, .int x] h (¬ x < 0 ∧ x < σ.1 3009) 26 15 := by
  intro p l e R s m args below meth c base D cA O Q C hfr hlo kg kb
  have hsp := t_X6_size (lsC_ok hL) (d := 0) (Q := fun v' h' => v' = some (.int (σ.1 3009)) ∧ h' = h) ⟨(_, σ), rfl, rfl, lsC_h hL⟩
  rw [lsC_h hL] at hsp
  have h0 : h.1[0]? = some (20, 14) := hL.1 0 (by decide)
  have h3 : h.1[47]? = some (16, jx_N 6) := hL.1 47 (by decide)
  have hg : h.2.1 5 = .ref 47 := hL.2.1 (5, 47) (by decide)
  refine jx_iload_n C (i := 1) (by decide) (by decide +kernel) rfl ?_
  refine jx_if_lt C (a := 15) (by decide +kernel) (fun q => kb (fun z => z.1 q)) (fun q1 => ?_)
  refine jx_iload_n C (i := 1) (by decide) (by decide +kernel) rfl ?_
  refine jx_aload_n C (i := 0) (by decide) (by decide +kernel) rfl ?_
  refine jx_get C (a := 10) (b := 5) (d := 47) (by decide) (by decide) h0 (jx_fl_in (by decide +kernel)) (by decide +kernel) (v := .ref 47) ?_ ?_
  · unfold jx_f
    rw [if_pos (by decide), if_pos (by decide +kernel)]
    show jx_V base (h.2.1 5) = _
    rw [hg]
  have hi : jm_MS[73]? = some jm_i73 := rfl
  obtain ⟨hM, hlen⟩ := jx_MetOf l (base := base) (D := D) (cA := cA) (O := O) (x := []) hsp hi (fun z => absurd rfl z) (List.append_nil _).symm
  refine (jx_call (m0 := 73) (op := 49) (a := 73) (b := 1) (c0 := 6) (d := 468) (x := 0) (L := []) (bl := jm_l1198) (r := []) C (jm_MS_ok _ _ hi) hM (r' := []) (ls' := [.ref 0, .int x]) (st' := [.int x]) (by simp [jx_s, h3, Value.category]) hlen (by decide +kernel) (rt := 1) (kd := 0) (by decide +kernel) (by omega) (by omega) (Nat.zero_le _) (Nat.zero_le _) ?_).2
  exact jx_icmp_lt C (a := 26) (by decide +kernel) (fun q => kg ⟨q1, q⟩) (fun q => kb (fun z => q z.2))
theorem nx_good {l : Launch} {base : Nat} {D : va_G} {cA : Nat → ClassId} {O : Nat → va_E} {k0 pg pb : Nat} {i1 : jx_M} {as : List Value} {h h1 : jx_H} {v : Option Value} {good : Prop} (hpre : nx_Pre i1 as h good pg pb) (hg : good) (hi1 : jx_okM k0 i1) (h10 : i1.2.2.2.2.2.2.1 = 10) (hlen : as.length = i1.2.2.1) (hall : as.all (fun v => decide (v.category = 1)) = true)
    (hx : jx_Ex 6 i1.2.2.2.2.2.2.2 (jx_at i1.2.2.2.2.2.2.2 pg) as [] h (fun v' h' => v' = v ∧ h' = h1)) (hl1 : h1.1 = h.1) : jx_MetM l base D cA O 6 i1 as h v h1 [] := by
  obtain ⟨n, v', h', hy, rfl, rfl⟩ := hx
  unfold jx_MetM
  refine Met.ofW (cc := i1.2.1) (maxL := i1.2.2.1) (ret := i1.2.2.2.1) hi1.2.2.1 rfl ?_
  intro p e s m args below meth c s₁ B hml hv
  obtain ⟨rfl, hP, hK, hz⟩ := hv
  have hts := atoms_spec (ws := jx_wsM i1) B.pre
  have hown : s.vm.findClass (jx_nm i1.2.2.2.2.2.2.1) = some m.cls := by
    rw [← hi1.2.1]
    exact findClass_of_methodNamed B.named
  have C1 : jx_Cx p s m (as.map (jx_V base)).toArray meth c base D cA i1.2.1 i1.2.2.1 i1.2.2.2.2.2.2.1 := ⟨B.exec, B.bytes, hml, hown, fun w hw => hts w (List.mem_cons_of_mem _ hw), hK, by rw [hz]; omega⟩
  have g1 := jx_sound jm_MS_ok l (O := O) n 6 _ i1 hi1 _ _ _ h v' h' hy p e (jx_rm 6 0 0) s m (as.map (jx_V base)).toArray below meth c C1 B.returns B.notSynchronized (fun hk => by rw [(name_of_methodNamed B.named B.method).1]; exact (hi1.2.2.2.2.2.2.2.2.1 hk).1) (Nat.le_refl _) (Nat.le_refl _) [] 0 0 pg (fun z => absurd rfl z) (by rw [hl1, List.append_nil]) rfl rfl (jx_at_ok hi1.2.2.2.2.2.2.2.2.2.2.2.2.2.2 pg)
  rw [lg_entry_eq]
  have g2 := jx_L_entry (base := base) hall (Nat.le_of_eq hlen)
  rw [hlen, Nat.sub_self, List.replicate_zero, List.append_nil] at g2
  rw [h10] at C1
  exact hpre p l e _ s m _ below meth c base D cA O _ C1 (show 6 ≤ 7 by decide) (show 64 * 6 ≤ 64 * 7 by decide) (fun _ => g1) (fun z => absurd hg z) s.heap [] _ hP hz va_S.rf g2
theorem nx_bad {l : Launch} (hl : l.stackTraces = false) {base : Nat} {D : va_G} {cA : Nat → ClassId} {O : Nat → va_E} {k0 pg pb is k9 : Nat} {tx : String} {i1 : jx_M} {as : List Value} {h : jx_H} {good : Prop} {sa : Nat → Nat} {sk : Nat} (hpre : nx_Pre i1 as h good pg pb) (hg : ¬ good) (hi1 : jx_okM k0 i1) (h10 : i1.2.2.2.2.2.2.1 = 10) (hlen : as.length = i1.2.2.1) (hall : as.all (fun v => decide (v.category = 1)) = true)
    (htx : ∀ U, nx_P base sa U → vk_R "OfDifferentMinds" is tx (sa sk) U) (d0 : decode i1.2.1 pb = .ok (.new 164, 3)) (d3 : decode i1.2.1 (pb + 3) = .ok (.dup, 1)) (d4 : (decode i1.2.1 (pb + 4) = .ok (.ldc is, 2) ∧ k9 = pb + 6) ∨ (decode i1.2.1 (pb + 4) = .ok (.ldc_w is, 3) ∧ k9 = pb + 7)) (d6 : decode i1.2.1 k9 = .ok (.invokespecial 168, 3)) (d9 : decode i1.2.1 (k9 + 3) = .ok (.athrow, 1)) : nx_Met l base D cA O i1 as h sa := by
  unfold nx_Met
  refine vx_ofW (cc := i1.2.1) (maxL := i1.2.2.1) (ret := i1.2.2.2.1) hi1.2.2.1 rfl ?_
  intro p e s m args below meth c s₁ B hml hno hv
  obtain ⟨rfl, ⟨hP, hK, hz⟩, hN⟩ := hv
  have hts := atoms_spec (ws := jx_wsM i1) B.pre
  have hts2 : ∀ w ∈ lw_g, w.before (as.map (jx_V base)).toArray s = true := fun w hw => hts w (List.mem_cons_of_mem _ hw)
  have hown : s.vm.findClass (jx_nm i1.2.2.2.2.2.2.1) = some m.cls := by
    rw [← hi1.2.1]
    exact findClass_of_methodNamed B.named
  rw [h10] at hown
  have C1 : jx_Cx p s m (as.map (jx_V base)).toArray meth c base D cA i1.2.1 i1.2.2.1 10 := ⟨B.exec, B.bytes, hml, hown, hts2, hK, by rw [hz]; omega⟩
  rw [lg_entry_eq]
  have g2 := jx_L_entry (base := base) hall (Nat.le_of_eq hlen)
  rw [hlen, Nat.sub_self, List.replicate_zero, List.append_nil] at g2
  refine hpre p l e _ s m _ below meth c base D cA O _ C1 (show 6 ≤ 7 by decide) (show 64 * 6 ≤ 64 * 7 by decide) (fun z => absurd z hg) (fun _ => ?_) s.heap [] _ hP hz va_S.rf g2
  intro H locs lsA hP1 hz1 hS1 hL1
  refine nx_throw (own := "OfDifferentMinds") (cls := nx_N) (text := tx) (ik := 164) (is := is) (ic := 168) (ix := 13) (rx := prog_22_method_4_code) (Y9 := "java/lang/RuntimeException") (r9 := ["java/lang/Exception"]) (A := fun q => base ≤ q) (sa := sa sk) B.exec B.bytes hl hown (by decide) (by decide) (by decide) (by decide +kernel) (by decide +kernel) (by decide +kernel) (by decide +kernel)
    (hts2 _ nx_k_in) (hts2 _ nx_i_in) (htx s hN) (nx_hat hts2 hN) nx_L_o hN.2.2.2.2.1 hN.2.2.2.2.2 hS1 (by obtain ⟨-, lv, hl2, -⟩ := hL1; rw [hl2.1, hml]) d0 d3 d4 d6 d9 (fun x hx => (hno x hx).elim) (show 5 < 7 by decide) (show 0 + (13 * 3 + 43) ≤ 64 * 7 by decide) (Nat.le_refl 1) (Nat.le_refl 6) B.notSynchronized ?_ hS1.2.2 (Nat.le_refl _) (Nat.le_refl _)
  intro t hA hz2 hq2
  refine ⟨(), trivial, ⟨rfl, ?_, by rw [← hz1]; exact hz2⟩, Nat.le_trans hS1.1 hz2, fun q h1 h2 => ?_⟩
  · exact hP1.kept (fun k q hk => hq2 q.1 (vx_lt hP1 hk))
  · rw [hq2 q (Nat.lt_of_lt_of_le h1 hS1.1)]
    exact hS1.2.1 q h1 h2
