/-! ===== the small machine's heap, as the machine's ===== -/
def jx_V (base : Nat) : Value → Value
  | .ref a => .ref (base + a)
  | v => v
def jx_oq (base : Nat) : Value → Option Nat
  | .ref a => some (base + a)
  | _ => none
def jx_isr (c k : Nat) : Bool := match jx_ty c k with
  | .int => false
  | .boolean => false
  | _ => true
def jx_f (base : Nat) (h : jx_H) (c o k : Nat) : Value := if k < 64 then (if jx_isr c k = true then jx_V base (h.2.1 (64 * o + k)) else .int (h.2.2.1 (64 * o + k))) else .null
def jx_e (base : Nat) (cA : Nat → ClassId) (O : Nat → va_E) (h : jx_H) (i : Nat) : va_E :=
  match h.1[i]? with
  | some (k, n) => if k < 3 then .inl (cA k, n, .inl (h.2.2.2 i)) else if k = 4 then .inl (cA 4, n, .inr (.inr (.inr (.inr (fun j => if j < 64 then jx_oq base (h.2.1 (64 * i + j)) else none))))) else if k < 10 then O i else .inr (k - 10, (List.range n).map (jx_f base h (k - 10) i))
  | none => O i
def jx_ws (base : Nat) (cA : Nat → ClassId) (O : Nat → va_E) (h : jx_H) : va_W := (List.range h.1.length).map fun i => (base + i, jx_e base cA O h i)
/-- how many cells lie above the world's, of which nothing is said -/
def jx_G (O : Nat → va_E) : Nat := match O 1000000 with
  | .inr q => q.1
  | _ => 0
def jx_SC : String := "OfDifferentMinds$Standing"
def jx_ta (cA : Nat → ClassId) : List (ClassId × FieldType) := [(cA 0, .int), (cA 1, .byte), (cA 2, .boolean), (cA 4, .object jx_SC)]
def jx_KK (D : va_G) (cA : Nat → ClassId) (U : State) : Prop := va_K D jx_cl (jx_ta cA) U ∧ va_AO jx_SC U
theorem jx_KK.moved {D : va_G} {cA : Nat → ClassId} {u U : State} (hvm : u.vm.Alike U.vm) (h : jx_KK D cA u) : jx_KK D cA U := ⟨h.1.moved hvm, h.2.moved hvm⟩
theorem jx_ws_get {base : Nat} {cA : Nat → ClassId} {O : Nat → va_E} {h : jx_H} {i : Nat} (hi : i < h.1.length) : (jx_ws base cA O h)[i]? = some (base + i, jx_e base cA O h i) := by
  unfold jx_ws
  rw [List.getElem?_map, List.getElem?_range hi]
  rfl
theorem jx_ws_inv {base : Nat} {cA : Nat → ClassId} {O : Nat → va_E} {h : jx_H} {i : Nat} {q : Nat × va_E} (hq : (jx_ws base cA O h)[i]? = some q) : i < h.1.length ∧ q = (base + i, jx_e base cA O h i) := by
  have hl : i < h.1.length := by
    have := (List.getElem?_eq_some_iff.mp hq).1
    simpa [jx_ws] using this
  rw [jx_ws_get hl] at hq
  exact ⟨hl, (Option.some.inj hq).symm⟩
theorem jx_ws_D {base : Nat} {cA : Nat → ClassId} {O : Nat → va_E} {h : jx_H} : va_D (fun q => base ≤ q) (jx_ws base cA O h) := by
  refine ⟨fun i j p q hi hj he => ?_, fun k q hk => ?_⟩
  · obtain ⟨-, rfl⟩ := jx_ws_inv hi
    obtain ⟨-, rfl⟩ := jx_ws_inv hj
    simp only at he
    omega
  · obtain ⟨-, rfl⟩ := jx_ws_inv hk
    exact Nat.le_add_right _ _
theorem jx_lt {h : jx_H} {o : Nat} {q : Nat × Nat} (ho : h.1[o]? = some q) : o < h.1.length := (List.getElem?_eq_some_iff.mp ho).1
theorem jx_e_arr {base : Nat} {cA : Nat → ClassId} {O : Nat → va_E} {h : jx_H} {o k n : Nat} (ho : h.1[o]? = some (k, n)) (hk : k < 3) : jx_e base cA O h o = .inl (cA k, n, .inl (h.2.2.2 o)) := by
  unfold jx_e
  rw [ho]
  simp [hk]
theorem jx_e_q {base : Nat} {cA : Nat → ClassId} {O : Nat → va_E} {h : jx_H} {o n : Nat} (ho : h.1[o]? = some (4, n)) : jx_e base cA O h o = .inl (cA 4, n, .inr (.inr (.inr (.inr (fun j => if j < 64 then jx_oq base (h.2.1 (64 * o + j)) else none))))) := by
  unfold jx_e
  rw [ho]
  simp
theorem jx_e_obj {base : Nat} {cA : Nat → ClassId} {O : Nat → va_E} {h : jx_H} {o c n : Nat} (ho : h.1[o]? = some (10 + c, n)) : jx_e base cA O h o = .inr (c, (List.range n).map (jx_f base h c o)) := by
  unfold jx_e
  rw [ho]
  have h1 : ¬ 10 + c < 3 := by omega
  have h2 : ¬ 10 + c = 4 := by omega
  have h3 : ¬ 10 + c < 10 := by omega
  simp [h1, h2, h3]
/-- a world whose row of kinds is the same, and whose cells but one are -/
theorem jx_P_set {D : va_G} {base : Nat} {cA : Nat → ClassId} {O : Nat → va_E} {h h1 : jx_H} {o : Nat} {H H1 : Heap} (hP : va_P D jx_cl (jx_ws base cA O h) H) (hl : h1.1 = h.1) (ho : o < h.1.length) (hne : ∀ i, i ≠ o → jx_e base cA O h1 i = jx_e base cA O h i) (hat : va_at D jx_cl (base + o, jx_e base cA O h1 o) H1) (hoq : ∀ q : Nat, q ≠ base + o → H1[q]? = H[q]?) : va_P D jx_cl (jx_ws base cA O h1) H1 := by
  intro k q hk
  obtain ⟨hkl, rfl⟩ := jx_ws_inv hk
  rw [hl] at hkl
  by_cases hko : k = o
  · subst hko; exact hat
  · rw [hne k hko]
    exact (hP k _ (jx_ws_get hkl)).kept (hoq _ (by simp only; omega))
/-- a world with one more cell -/
theorem jx_P_push {D : va_G} {base : Nat} {cA : Nat → ClassId} {O : Nat → va_E} {h h1 : jx_H} {q0 : Nat × Nat} {H H1 : Heap} (hP : va_P D jx_cl (jx_ws base cA O h) H) (hz : H.size = base + h.1.length) (hl : h1.1 = h.1 ++ [q0]) (hne : ∀ i, i < h.1.length → jx_e base cA O h1 i = jx_e base cA O h i) (hat : va_at D jx_cl (base + h.1.length, jx_e base cA O h1 h.1.length) H1) (hoq : ∀ q : Nat, q < H.size → H1[q]? = H[q]?) : va_P D jx_cl (jx_ws base cA O h1) H1 := by
  intro k q hk
  obtain ⟨hkl, rfl⟩ := jx_ws_inv hk
  rw [hl, List.length_append, List.length_singleton] at hkl
  by_cases hko : k = h.1.length
  · subst hko; exact hat
  · have hk2 : k < h.1.length := by omega
    rw [hne k hk2]
    exact (hP k _ (jx_ws_get hk2)).kept (hoq _ (by simp only; omega))
theorem jx_e_congr {base : Nat} {cA : Nat → ClassId} {O : Nat → va_E} {h h1 : jx_H} {i : Nat} (hl : h1.1[i]? = h.1[i]?) (hA : h1.2.2.2 i = h.2.2.2 i) (hP : ∀ j, j < 64 → h1.2.1 (64 * i + j) = h.2.1 (64 * i + j)) (hG : ∀ j, j < 64 → h1.2.2.1 (64 * i + j) = h.2.2.1 (64 * i + j)) : jx_e base cA O h1 i = jx_e base cA O h i := by
  have hf : ∀ c, jx_f base h1 c i = jx_f base h c i := by
    intro c
    funext k
    unfold jx_f
    by_cases hk : k < 64
    · simp only [hk, if_true, hP k hk, hG k hk]
    · simp only [hk, if_false]
  have hq : (fun j => if j < 64 then jx_oq base (h1.2.1 (64 * i + j)) else none) = (fun j => if j < 64 then jx_oq base (h.2.1 (64 * i + j)) else none) := by
    funext j
    by_cases hk : j < 64
    · simp only [hk, if_true, hP j hk]
    · simp only [hk, if_false]
  unfold jx_e
  rw [hl, hA]
  simp only [hf, hq]
/-- the locals -/
def jx_L (base : Nat) (ls : List Value) (lsA : Array Slot) (nL : Nat) : Prop := ls.length = nL ∧ ∃ lv : List (Nat × Value), lv_has lsA nL lv ∧ ∀ (i : Nat) (v : Value), ls[i]? = some v → v ≠ .retAddr 0 → v.category = 1 ∧ (i, jx_V base v) ∈ lv
theorem jx_V_cat (base : Nat) (v : Value) : (jx_V base v).category = v.category := by cases v <;> rfl
theorem jx_L_get {base : Nat} {ls : List Value} {lsA : Array Slot} {nL i : Nat} {v : Value} (h : jx_L base ls lsA nL) (hi : ls[i]? = some v) (hv : v ≠ .retAddr 0) : lsA[i]? = some (.val (jx_V base v)) := by
  obtain ⟨-, lv, h1, h2⟩ := h
  exact h1.2.2 _ (h2 i v hi hv).2
theorem jx_L_set {base : Nat} {ls : List Value} {lsA' : Array Slot} {nL i : Nat} {v : Value} {lv : List (Nat × Value)} (hlen : ls.length = nL) (h2 : ∀ (i : Nat) (v : Value), ls[i]? = some v → v ≠ .retAddr 0 → v.category = 1 ∧ (i, jx_V base v) ∈ lv) (hi : i < nL) (hc : v.category = 1)
    (h' : lv_has lsA' nL ((i, jx_V base v) :: lv.filter (fun q => !(q.1 == i) && !(q.1 + 1 == i && q.2.category == 2)))) : jx_L base (ls.set i v) lsA' nL := by
  refine ⟨by rw [List.length_set]; exact hlen, _, h', fun j w hj hw => ?_⟩
  by_cases hji : j = i
  · subst hji
    rw [List.getElem?_set_self (by omega)] at hj
    cases hj
    exact ⟨hc, List.mem_cons_self⟩
  · rw [List.getElem?_set_ne (Ne.symm hji)] at hj
    obtain ⟨a, b⟩ := h2 j w hj hw
    refine ⟨a, List.mem_cons_of_mem _ (List.mem_filter.mpr ⟨b, ?_⟩)⟩
    have : (jx_V base w).category = 1 := by rw [jx_V_cat]; exact a
    simp [hji, this]
theorem jx_L_idx {base : Nat} {ls : List Value} {lsA : Array Slot} {nL i : Nat} {v : Value} (h : jx_L base ls lsA nL) (hi : ls[i]? = some v) : i < nL := by
  have := (List.getElem?_eq_some_iff.mp hi).1
  rw [h.1] at this
  exact this
/-- what stands at a method's walk and doesn't change -/
def jx_Cx (p : Program) (s : State) (m : MethodId) (args : Array Value) (meth : Method) (c : Code) (base : Nat) (D : va_G) (cA : Nat → ClassId) (cc : ByteArray) (nL own : Nat) : Prop :=
  p.tables.exec = Jvm.exec ∧ c.code = cc ∧ c.maxLocals = nL ∧ s.vm.findClass (jx_nm own) = some m.cls ∧ (∀ w ∈ lw_g, w.before args s = true) ∧ jx_KK D cA s ∧ base ≤ s.heap.size
/-- the walk goes on from here -/
def jx_Go (p : Program) (l : Launch) (e : Env) (R : Room) (s : State) (m : MethodId) (args : Array Value) (below : List Frame) (meth : Method) (c : Code) (base : Nat) (D : va_G) (cA : Nat → ClassId) (O : Nat → va_E) (nL : Nat) (Q : State → Prop) (cells slots pc : Nat) (ls st : List Value) (h : jx_H) : Prop :=
  ∀ (H : Heap) (locs : List Loc) (lsA : Array Slot), va_P D jx_cl (jx_ws base cA O h) H → H.size = base + h.1.length + jx_G O → va_S (fun q => base ≤ q) s.heap H locs → jx_L base ls lsA nL → W p l e R s m args below meth c H locs cells slots Q (F0 m pc lsA (st.map (jx_V base)))
