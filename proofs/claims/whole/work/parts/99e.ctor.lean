/-! ===== the two constructors, by evaluation ===== -/
def cx_e : jx_H := ([], fun _ => .null, fun _ => 0, fun _ _ => 0)
/-- what 'new' leaves -/
def cx_new (h : jx_H) (a : Nat) : jx_H := (h.1 ++ [(10 + a, jx_N a)], fun q => if 64 * h.1.length ≤ q then .null else h.2.1 q, fun q => if 64 * h.1.length ≤ q then 0 else h.2.2.1 q, h.2.2.2)
def cx_of (o : Option (Option Value × jx_H)) : jx_H := match o with
  | some q => q.2
  | none => cx_e
def cx_r1 : Option (Option Value × jx_H) := jx_x jm_MS 20 20000 jm_l128 (jx_at jm_l128 0) [.ref 0] [] (cx_new cx_e 10)
def cx_h1 : jx_H := cx_of cx_r1
def cx_r2 : Option (Option Value × jx_H) := jx_x jm_MS 20 20000 jm_l199 (jx_at jm_l199 0) [.ref 65] [] (cx_new cx_h1 11)
def cx_h2 : jx_H := cx_of cx_r2
def cx_none (o : Option (Option Value × jx_H)) : Bool := match o with
  | some q => decide (q.1 = none)
  | none => false
theorem cx_some {o : Option (Option Value × jx_H)} (h : cx_none o = true) : o = some (none, cx_of o) := by
  unfold cx_none at h
  split at h
  · rename_i q
    obtain ⟨q1, q2⟩ := q
    have h1 : q1 = none := of_decide_eq_true h
    subst h1
    rfl
  · cases h
set_option maxHeartbeats 8000000 in
theorem cx_n1 : cx_none cx_r1 = true := by decide +kernel
set_option maxHeartbeats 8000000 in
theorem cx_n2 : cx_none cx_r2 = true := by decide +kernel
set_option maxHeartbeats 8000000 in
theorem cx_l1 : cx_h1.1 = jLAY.take 65 := by decide +kernel
set_option maxHeartbeats 8000000 in
theorem cx_l2 : cx_h2.1 = jLAY := by decide +kernel
set_option maxHeartbeats 8000000 in
theorem cx_p2 : ∀ q ∈ jPtab, cx_h2.2.1 q.1 = .ref q.2 := by decide +kernel
def cx_T : jT := (cx_h2.2.2.1, cx_h2.2.2.2)
set_option maxHeartbeats 8000000 in
theorem cx_i2 : ∀ q ∈ [12, 65, 195, 196, 197, 452, 898, 899, 900, 3009, 4161, 4164, 4165, 4169, 4171, 4172, 4184, 4189, 4203, 4208], cx_h2.2.2.1 q = 0 := by decide +kernel
set_option maxHeartbeats 8000000 in
theorem cx_a2 : ∀ q ∈ [(13, 24, (0 : Int32)), (13, 25, -1), (13, 26, -1), (13, 27, 0), (66, 0, 0), (66, 1, -1), (66, 2, -1), (66, 3, 0), (67, 0, 0), (93, 0, 0), (93, 1, 0), (94, 0, 0), (94, 1, 0)], cx_h2.2.2.2 q.1 q.2.1 = q.2.2 := by decide +kernel
theorem cx_sp1 : jx_Sp 20 128 [.ref 0] (cx_new cx_e 10) (fun v' h' => v' = none ∧ h' = cx_h1) := ⟨jm_i128, rfl, rfl, by decide, 20000, none, cx_h1, cx_some cx_n1, rfl, rfl⟩
theorem cx_sp2 : jx_Sp 20 199 [.ref 65] (cx_new cx_h1 11) (fun v' h' => v' = none ∧ h' = cx_h2) := ⟨jm_i199, rfl, rfl, by decide, 20000, none, cx_h2, cx_some cx_n2, rfl, rfl⟩
def cx_h3 : jx_H := (cx_h2.1 ++ [(3, 1)], cx_h2.2)
theorem cx_W : lsW cx_h3 cx_T cx_T := by
  refine ⟨fun i hi => ?_, cx_p2, fun _ _ => rfl, fun _ _ _ => rfl, fun _ _ => rfl, fun _ _ _ => rfl⟩
  show (cx_h2.1 ++ [(3, 1)])[i]? = _
  rw [cx_l2, List.getElem?_append_left (show i < jLAY.length from hi)]
theorem cx_95 : cx_h3.1[95]? = some (3, 1) := by
  show (cx_h2.1 ++ [(3, 1)])[95]? = _
  rw [cx_l2]
  rfl
theorem cx_96 : cx_h3.1.length = 96 := by
  show (cx_h2.1 ++ [(3, 1)]).length = _
  rw [cx_l2]
  rfl
theorem cx_R : rAll 0 0 0 cx_T cx_T := by
  have i2 : ∀ q, q ∈ [12, 65, 195, 196, 197, 452, 898, 899, 900, 3009, 4161, 4164, 4165, 4169, 4171, 4172, 4184, 4189, 4203, 4208] → cx_T.1 q = nI 0 := fun q hq => cx_i2 q hq
  have a2 : ∀ q, q ∈ [(13, 24, (0 : Int32)), (13, 25, -1), (13, 26, -1), (13, 27, 0), (66, 0, 0), (66, 1, -1), (66, 2, -1), (66, 3, 0), (67, 0, 0), (93, 0, 0), (93, 1, 0), (94, 0, 0), (94, 1, 0)] → cx_T.2 q.1 q.2.1 = q.2.2 := cx_a2
  refine ⟨fun _ => ⟨0, by omega, i2 65 (by decide), i2 4169 (by decide), fun j hj => absurd hj (by omega)⟩, ⟨by omega, i2 195 (by decide), i2 4161 (by decide), ⟨0, by decide, i2 196 (by decide), i2 4164 (by decide)⟩, fun p hp => absurd hp (by omega), fun _ => a2 (67, 0, 0) (by decide)⟩, ⟨by omega, i2 197 (by decide), i2 4165 (by decide), fun r hr => absurd hr (by omega)⟩, ⟨⟨⟨0, Or.inr ⟨rfl, rfl⟩, a2 (13, 24, 0) (by decide), a2 (66, 0, 0) (by decide)⟩, ?_, ?_, ?_, Or.inl ⟨a2 (13, 25, -1) (by decide), a2 (13, 26, -1) (by decide), a2 (13, 27, 0) (by decide)⟩, fun r hr => absurd hr (by omega)⟩, fun r hr => absurd hr (by omega)⟩, ?_, ⟨0, 0, by omega, by omega, i2 899 (by decide), i2 4189 (by decide), i2 898 (by decide), fun i hi => absurd hi (by omega)⟩, ⟨0, 0, by omega, by omega, i2 4208 (by decide), i2 900 (by decide), fun i hi => ?_⟩, ⟨0, by omega, i2 3009 (by decide), i2 4171 (by decide), fun i hi => absurd hi (by omega)⟩, ⟨0, by omega, i2 12 (by decide), i2 4203 (by decide), fun i hi => absurd hi (by omega)⟩⟩
  · rw [a2 (13, 25, -1) (by decide), a2 (66, 1, -1) (by decide)]
  · rw [a2 (13, 26, -1) (by decide), a2 (66, 2, -1) (by decide)]
  · rw [a2 (13, 27, 0) (by decide), a2 (66, 3, 0) (by decide)]
  · unfold rU
    rw [show cx_T.1 452 = 0 from i2 452 (by decide), show cx_T.1 4184 = 0 from i2 4184 (by decide)]
    exact rU0_empty _ _
  · have e93 : cx_T.2 93 i = 0 := by
      rcases (show i = 0 ∨ i = 1 by omega) with rfl | rfl
      · exact a2 (93, 0, 0) (by decide)
      · exact a2 (93, 1, 0) (by decide)
    have e94 : cx_T.2 94 i = 0 := by
      rcases (show i = 0 ∨ i = 1 by omega) with rfl | rfl
      · exact a2 (94, 0, 0) (by decide)
      · exact a2 (94, 1, 0) (by decide)
    have hb : ¬ (0 / 2 ^ i % 2 = 1) := by simp
    refine ⟨⟨0, by omega, e94, ⟨fun q => absurd q hb, fun q => ?_⟩⟩, Or.inl e93, fun q => absurd q hb⟩
    rw [e93] at q
    exact absurd q.1 (by decide)
