/-! ===== the law: its frame, its calls ===== -/
def R_law : String := "OfDifferentMindsLaw"
def lw_P (b : Addr) (xs : List Int32) (args : Array Value) (s : State) : Prop := args = #[.ref b] ∧ s.IntsAt b xs ∧ xs.length ≤ 2560 ∧ (Jvm.Cond.and given_1 narrow_1).before args s = true
def lw_Q (_ : Array Value) (s : State) (o : Outcome) (t : State) : Prop := o = .returned (some (.int 1)) ∧ Framed s o t [] 601024 7293034
def lw_Z (below : List Frame) (a : Array Value) (s : State) : State → Prop := fun t => ∃ o, t.status = .running ∧ Ended t below o ∧ lw_Q a s o t
/-- the law's own end, with 1 on the stack, nothing written that was there before, its room as the claim has it -/
theorem lw_ret {p : Program} {l : Launch} {e : Env} {s : State} {m : MethodId} {below : List Frame} {meth : Method} {c : Code} {b : Nat} (hx : p.tables.exec = Jvm.exec) (hb : c.code = code) (hr : meth.sig.returnType = ret) (hlocks : meth.locks = false) {pc : Nat} {H : Heap} {ls : Array Slot} (hdg : decode code pc = .ok (.ireturn, 1)) : W p l e room_1 s m #[Value.ref b] below meth c H [] 601024 7293034 (lw_Z below #[Value.ref b] s) (F0 m pc ls [.int 1]) := by
  intro T hT X
  obtain ⟨fs, hret, hrun, hended, hW, hframe⟩ := X.leave (v := some (.int 1)) (hlocks := hlocks) (fun h => by rw [hr] at h; cases h)
  have hmeth' : T.vm.method? m = some meth := X.method'
  refine ⟨T.setFrames fs, ?_, .returned (some (.int 1)), hrun, hended, rfl, ⟨_, rfl⟩, hW, hframe⟩
  jvm_step X.here [X.here.top, hx, hb, hdg, hmeth', hr, ret, narrow_b1]
  (try refine ⟨rfl, ?_⟩); (try refine ⟨rfl, ?_⟩)
  first | (intro acts; rw [hret _ acts rfl rfl rfl]) | rw [hret _ _ rfl rfl rfl]
  exact Steps.refl _
/-- what holds at the law's entry: the machine, the code, the tables' words (any of lw_tbl by 'hts w (by decide +kernel)'), the script of L ints xs at the cell b, what the Statement gives of the start (any of its parts by flat_of_before) -/
def lw_At (p : Program) (s : State) (m : MethodId) (meth : Method) (c : Code) (b L : Nat) (xs : Nat → Int32) : Prop :=
  p.tables.exec = Jvm.exec ∧ c.code = code ∧ meth.sig.returnType = ret ∧ c.maxLocals = 7 ∧ s.vm.findClass R_law = some m.cls ∧ (∀ w ∈ lw_tbl, w.before #[Value.ref b] s = true) ∧ va_X b L xs s s.heap ∧ b < s.heap.size ∧ meth.locks = false ∧ (Jvm.Cond.and given_1 narrow_1).before #[Value.ref b] s = true
/-- what stands at the law's frame -/
def ll_C (p : Program) (l : Launch) (s : State) (m : MethodId) (meth : Method) (c : Code) (b L : Nat) (xs : Nat → Int32) (D : va_G) (cA : Nat → ClassId) (cL : ClassId) (sa : Nat → Nat) : Prop := lw_At p s m meth c b L xs ∧ jx_KK D cA s ∧ va_K D jx_cl [(cL, .long)] s ∧ nx_P s.heap.size sa s ∧ l.stackTraces = false
/-- how both sides stand after n calls -/
def ll_A (s : State) (D : va_G) (cA : Nat → ClassId) (cL : ClassId) (n : Nat) (H : Heap) (locs : List Loc) : Prop :=
  ∃ (h : jx_H) (σ τ : jT) (P Q : Nat) (f : Nat → Int64) (g : Nat), lsW h σ τ ∧ rAll n P Q σ τ ∧ h.1[95]? = some (3, 1) ∧ h.1.length = 96 ∧ va_P D jx_cl (jx_ws s.heap.size cA (lh_O cL f g) h) H ∧ H.size = s.heap.size + h.1.length + jx_G (lh_O cL f g) ∧ va_S (fun q => s.heap.size ≤ q) s.heap H locs
def ll_v (s : State) (b n : Nat) : List (Nat × Value) := [(0, .ref b), (1, .ref s.heap.size), (2, .ref (s.heap.size + 65)), (3, .ref (s.heap.size + 95)), (4, .int (nI (5 * n)))]
section LLA
variable {p : Program} {l : Launch} {e : Env} {R : Room} {s : State} {m : MethodId} {below : List Frame} {meth : Method} {c : Code} {b L : Nat} {xs : Nat → Int32} {D : va_G} {cA : Nat → ClassId} {cL : ClassId} {sa : Nat → Nat} {Q : State → Prop} {cells slots pc : Nat} {H : Heap} {locs : List Loc} {ls : Array Slot} {rest : List Value} {n : Nat}
theorem ll_c (C : ll_C p l s m meth c b L xs D cA cL sa) : lc_C p s m #[Value.ref b] c s.heap.size D cA code 7 "OfDifferentMindsLaw" := by
  obtain ⟨⟨hx, hb, hr, hml, hown, hts, -⟩, hK, -⟩ := C
  exact ⟨hx, hb, hml, hown, fun w hw => hts w (List.mem_filter.mp hw).1, hK, Nat.le_refl _⟩
def ll_d (pc k : Nat) : Bool := decide (decode code pc = .ok (.aload_n 0, 1)) && decide (decode code (pc + 1) = .ok (.iload 4, 2)) && decide (decode code (pc + 3) = .ok (.iconst k, 1)) && decide (decode code (pc + 4) = .ok (.iadd, 1)) && decide (decode code (pc + 5) = .ok (.iaload, 1))
/-- one number of the script -/
theorem ll_arg (C : ll_C p l s m meth c b L xs D cA cL sa) (hS : va_S (fun q => s.heap.size ≤ q) s.heap H locs) (hl : lv_has ls 7 (ll_v s b n)) (hL : L ≤ 2560) (k : Nat) (hk : k ≤ 4) (hn : 5 * n + 5 ≤ L) (hd : ll_d pc k = true)
    (kk : W p l e R s m #[Value.ref b] below meth c H locs cells slots Q (F0 m (pc + 6) ls (.int (xs (5 * n + k)) :: rest))) : W p l e R s m #[Value.ref b] below meth c H locs cells slots Q (F0 m pc ls rest) := by
  obtain ⟨⟨hx, hb, hr, hml, hown, hts, hX, hbl, -⟩, -⟩ := C
  have hbA : ¬ (fun q : Nat => s.heap.size ≤ q) b := Nat.not_le.mpr hbl
  simp only [ll_d, Bool.and_eq_true, decide_eq_true_eq] at hd
  obtain ⟨⟨⟨⟨d0, d1⟩, d2⟩, d3⟩, d4⟩ := hd
  refine lv_aload_n hx hb d0 rfl (lv_at hl 0 rfl) ?_
  refine lv_iload hx hb d1 (lv_at hl 4 rfl) ?_
  refine lv_iconst (v := nI k) hx hb d2 (by unfold nI; rcases (show k = 0 ∨ k = 1 ∨ k = 2 ∨ k = 3 ∨ k = 4 by omega) with rfl | rfl | rfl | rfl | rfl <;> decide) ?_
  refine lv_iadd hx hb d3 ?_
  rw [nI_add]
  refine va_sld hx hb hX hbl hbA hS (vp_in_nI (by omega) (by omega)) d4 ?_
  rw [nI_clamp (by omega)]
  exact kk
end LLA
