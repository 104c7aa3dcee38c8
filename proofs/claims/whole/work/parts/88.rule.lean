/-! ===== THE RULE: signs, numbers, letters ===== -/
/-- the class, reading at i, q signs drafted -/
def cQ (σ : jT) (i q : Nat) (D : Nat → Int32) : jT := (fun z => if z = 67 then nI i else if z = 453 then nI q else σ.1 z, fun o => if o = 9 then D else σ.2 o)
theorem cQ_gs (σ : jT) (i q j : Nat) (D : Nat → Int32) : gs (cQ σ i q D) 67 (nI j) = cQ σ j q D := by
  unfold cQ gs jx_up
  refine Prod.ext (funext fun z => ?_) rfl
  by_cases h : z = 67
  · show (if z = 67 then _ else _) = (if z = 67 then _ else _)
    rw [if_pos h, if_pos h]
  · show (if z = 67 then _ else if z = 67 then _ else _) = (if z = 67 then _ else _)
    rw [if_neg h, if_neg h, if_neg h]
theorem cQ_same {σ : jT} {i q : Nat} (h1 : σ.1 67 = nI i) (h2 : σ.1 453 = nI q) : cQ σ i q (σ.2 9) = σ := by
  unfold cQ
  refine Prod.ext (funext fun z => ?_) (funext fun o => ?_)
  · show (if z = 67 then nI i else if z = 453 then nI q else σ.1 z) = σ.1 z
    by_cases a : z = 67
    · rw [if_pos a, a, h1]
    · rw [if_neg a]
      by_cases b : z = 453
      · rw [if_pos b, b, h2]
      · rw [if_neg b]
  · show (if o = 9 then σ.2 9 else σ.2 o) = σ.2 o
    by_cases a : o = 9
    · rw [if_pos a, a]
    · rw [if_neg a]
theorem cQ_X {L i q : Nat} {d : Nat → Nat} {σ : jT} {D : Nat → Int32} (h : bX L 40 d σ) (hi : i ≤ 80) : cX L 40 i d (cQ σ i q D) := ⟨h.1, h.2.1, hi, h.2.2.1, h.2.2.2.1, rfl, h.2.2.2.2⟩
theorem cQ_B {L i q : Nat} {d : Nat → Nat} {σ : jT} {D : Nat → Int32} (h : bX L 40 d σ) : bX L 40 d (cQ σ i q D) := ⟨h.1, h.2.1, h.2.2.1, h.2.2.2.1, h.2.2.2.2⟩
theorem cq_peek {L i q : Nat} {d : Nat → Nat} {σ : jT} {D : Nat → Int32} (h : bX L 40 d σ) (hi : i ≤ 80) : f_X9_peek (cQ σ i q D) = some (sgn L 40 d i, cQ σ i q D) := c_peek (cQ_X h hi)
theorem cq_take {L i q a : Nat} {d : Nat → Nat} {σ : jT} {D : Nat → Int32} (h : bX L 40 d σ) (hi : i ≤ 80) (ha : a < 2 ^ 31) : f_X9_take (nI a) (cQ σ i q D) = if sIn L 40 d i a a then some (1, cQ σ (i + 1) q D) else some (0, cQ σ i q D) := by
  rw [c_take (cQ_X h hi) ha, cQ_gs]
theorem cq_next {L i q : Nat} {d : Nat → Nat} {σ : jT} {D : Nat → Int32} (h : bX L 40 d σ) (h1 : i < 40) (h2 : i < L) : f_X9_next (cQ σ i q D) = some (nI (d i), cQ σ (i + 1) q D) := by
  have := b_next (cQ_B (i := i) (q := q) (D := D) h) h1 h2
  rw [cQ_gs, cQ_gs] at this
  exact this
/-- signs are written behind q others -/
def wr (D : Nat → Int32) (q : Nat) : List Int32 → (Nat → Int32)
  | [] => D
  | c :: C => wr (jx_up D q c) (q + 1) C
theorem wr_app (A B : List Int32) : ∀ (D : Nat → Int32) (q : Nat), wr D q (A ++ B) = wr (wr D q A) (q + A.length) B := by
  induction A with
  | nil => intro D q; rfl
  | cons a A ih =>
    intro D q
    show wr (jx_up D q a) (q + 1) (A ++ B) = wr (wr (jx_up D q a) (q + 1) A) (q + (A.length + 1)) B
    rw [ih, show q + 1 + A.length = q + (A.length + 1) by omega]
theorem wr_lt (C : List Int32) : ∀ (D : Nat → Int32) (q z : Nat), z < q → wr D q C z = D z := by
  induction C with
  | nil => intro D q z _; rfl
  | cons a C ih =>
    intro D q z h
    show wr (jx_up D q a) (q + 1) C z = D z
    rw [ih _ _ _ (by omega)]
    exact if_neg (by omega)
theorem cq_write {q i : Nat} {x : Int32} {σ : jT} {D : Nat → Int32} (hq : q < 40) : f_X7_write x (cQ σ i q D) = some (0, cQ σ i (q + 1) (wr D q [x])) := by
  unfold f_X7_write
  have e : (cQ σ i q D).1 453 = nI q := rfl
  rw [e, if_neg (show ¬ (40 : Int32) ≤ nI q from nI_ge (b := 40) hq (by omega)), if_pos (ja_in hq (by omega)), nI_clamp (by omega), nS]
  congr 2
  refine Prod.ext (funext fun z => ?_) (funext fun o => ?_)
  · show (if z = 453 then nI (q + 1) else if z = 67 then nI i else if z = 453 then nI q else σ.1 z) = (if z = 67 then nI i else if z = 453 then nI (q + 1) else σ.1 z)
    by_cases a : z = 453
    · rw [if_pos a, if_neg (by omega), if_pos a]
    · rw [if_neg a, if_neg a, if_neg a]
  · show (fun j => if o = 9 ∧ j = q then x else (if o = 9 then D else σ.2 o) j) = (if o = 9 then jx_up D q x else σ.2 o)
    by_cases a : o = 9
    · rw [if_pos a, if_pos a]
      funext j
      unfold jx_up
      by_cases b : j = q
      · rw [if_pos ⟨a, b⟩, if_pos b]
      · rw [if_neg (fun w => b w.2), if_neg b]
    · rw [if_neg a, if_neg a]
      funext j
      rw [if_neg (fun w => a w.1)]
theorem cq_write40 {q i : Nat} {x : Int32} {σ : jT} {D : Nat → Int32} (hq : q ≤ 40) : ∃ q' D', q' ≤ 40 ∧ f_X7_write x (cQ σ i q D) = some (0, cQ σ i q' D') := by
  by_cases h : q < 40
  · exact ⟨q + 1, _, by omega, cq_write h⟩
  · refine ⟨q, D, hq, ?_⟩
    unfold f_X7_write
    have e : (cQ σ i q D).1 453 = nI q := rfl
    rw [e, if_pos (show (40 : Int32) ≤ nI q from (ja_le (a := 40) (by omega) (by omega)).2 (by omega))]
/-! the rank of a sign, what a letter stands for, what signs reckon -/
def rkO (x : Int32) : Int32 := if x = 42 then 2 else if x = 43 then 1 else if x = 45 then 1 else if x = 47 then 2 else if x = 60 then 0 else if x = 61 then 0 else if x = 62 then 0 else -1
theorem c_rank (x : Int32) (σ : jT) : f_X7_rankOf x σ = some (rkO x, σ) := by
  unfold f_X7_rankOf rkO
  split; rfl
  split; rfl
  split; rfl
  split; rfl
  split; rfl
  split; rfl
  split <;> rfl
def ltO (x : Int32) : Int32 := if x = 97 then 0 else if x = 98 then 1 else if x = 107 then 2 else if x = 109 then 5 else if x = 110 then 6 else if x = 112 then 3 else if x = 115 then 4 else -1
theorem c_thing (x : Int32) (σ : jT) : f_X7_thingOf x σ = some (ltO x, σ) := by
  unfold f_X7_thingOf ltO
  split; rfl
  split; rfl
  split; rfl
  split; rfl
  split; rfl
  split; rfl
  split <;> rfl
theorem lt_cases (x : Int32) : (x = 97 ∨ x = 98 ∨ x = 107 ∨ x = 109 ∨ x = 110 ∨ x = 112 ∨ x = 115) ∨ (¬ x = 97 ∧ ¬ x = 98 ∧ ¬ x = 107 ∧ ¬ x = 109 ∧ ¬ x = 110 ∧ ¬ x = 112 ∧ ¬ x = 115) := by
  by_cases a1 : x = 97
  · exact Or.inl (Or.inl a1)
  by_cases a2 : x = 98
  · exact Or.inl (Or.inr (Or.inl a2))
  by_cases a3 : x = 107
  · exact Or.inl (Or.inr (Or.inr (Or.inl a3)))
  by_cases a4 : x = 109
  · exact Or.inl (Or.inr (Or.inr (Or.inr (Or.inl a4))))
  by_cases a5 : x = 110
  · exact Or.inl (Or.inr (Or.inr (Or.inr (Or.inr (Or.inl a5)))))
  by_cases a6 : x = 112
  · exact Or.inl (Or.inr (Or.inr (Or.inr (Or.inr (Or.inr (Or.inl a6))))))
  by_cases a7 : x = 115
  · exact Or.inl (Or.inr (Or.inr (Or.inr (Or.inr (Or.inr (Or.inr a7))))))
  exact Or.inr ⟨a1, a2, a3, a4, a5, a6, a7⟩
theorem m_letter (x : Int32) (τ : jT) : f_X11_letterOf x τ = some (ltO x, τ) := by
  unfold f_X11_letterOf ltO
  rcases lt_cases x with h | ⟨h1, h2, h3, h4, h5, h6, h7⟩
  · rcases h with h | h | h | h | h | h | h <;> rw [h] <;> rfl
  · rw [if_pos h1, if_pos h2, if_pos h3, if_pos h6, if_pos h7, if_pos h4, if_pos h5, if_neg h1, if_neg h2, if_neg h3, if_neg h4, if_neg h5, if_neg h6, if_neg h7]
theorem lt_val (x : Int32) : ltO x = -1 ∨ ((∃ t, t < 7 ∧ ltO x = nI t) ∧ ¬ x = -1 ∧ ¬ x = 40 ∧ ¬ x = 45 ∧ (57 : Int32) < x) := by
  rcases lt_cases x with h | ⟨h1, h2, h3, h4, h5, h6, h7⟩
  · right
    rcases h with h | h | h | h | h | h | h <;> rw [h]
    · exact ⟨⟨0, by decide, by decide⟩, by decide, by decide, by decide, by decide⟩
    · exact ⟨⟨1, by decide, by decide⟩, by decide, by decide, by decide, by decide⟩
    · exact ⟨⟨2, by decide, by decide⟩, by decide, by decide, by decide, by decide⟩
    · exact ⟨⟨5, by decide, by decide⟩, by decide, by decide, by decide, by decide⟩
    · exact ⟨⟨6, by decide, by decide⟩, by decide, by decide, by decide, by decide⟩
    · exact ⟨⟨3, by decide, by decide⟩, by decide, by decide, by decide, by decide⟩
    · exact ⟨⟨4, by decide, by decide⟩, by decide, by decide, by decide, by decide⟩
  · left
    unfold ltO
    rw [if_neg h1, if_neg h2, if_neg h3, if_neg h4, if_neg h5, if_neg h6, if_neg h7]
def jn (s x y : Int32) : Int32 := if s = 42 then x * y else if s = 43 then x + y else if s = 45 then x - y else if s = 60 then (if y ≤ x then 0 else 1) else if s = 61 then (if ¬ x = y then 0 else 1) else if s = 62 then (if x ≤ y then 0 else 1) else if ¬ y = 0 then x / y else 0
theorem c_joined (s x y : Int32) (σ : jT) : f_X7_joined s x y σ = some (jn s x y, σ) := by
  unfold f_X7_joined jn
  split; rfl
  split; rfl
  split; rfl
  split
  · split <;> rfl
  split
  · split <;> rfl
  split
  · split <;> rfl
  split
  · rfl
  · rfl
/-- one sign of the code, reckoned on a stack -/
def rn1 (e : Nat → Int32) (c : Int32) (st : List Int32) : List Int32 :=
  if c < 2000 then (if c < 1000 then c else e ((c - 1000) - (c - 1000) / 7 * 7).toNatClampNeg) :: st
  else if c = 2000 then (match st with | x :: r => (-x) :: r | [] => [])
  else match st with | y :: x :: r => jn (c - 3000) x y :: r | st => st
def rnL (e : Nat → Int32) : List Int32 → List Int32 → List Int32
  | [], st => st
  | c :: C, st => rnL e C (rn1 e c st)
theorem rnL_app (e : Nat → Int32) (A B : List Int32) : ∀ st, rnL e (A ++ B) st = rnL e B (rnL e A st) := by
  induction A with
  | nil => intro st; rfl
  | cons a A ih => intro st; exact ih _
theorem rn_num {e : Nat → Int32} {v : Nat} (hv : v ≤ 999) (st : List Int32) : rn1 e (nI v) st = nI v :: st := by
  unfold rn1
  rw [if_pos (show nI v < 2000 from nI_lt (b := 2000) (by omega) (by omega)), if_pos (show nI v < 1000 from nI_lt (b := 1000) (by omega) (by omega))]
theorem rn_let {e : Nat → Int32} {t : Nat} (ht : t < 7) (st : List Int32) : rn1 e (1000 + nI t) st = e t :: st := by
  have h1 : ∀ t, t < 7 → (1000 + nI t < 2000) ∧ (¬ 1000 + nI t < 1000) ∧ ((1000 + nI t - 1000) - (1000 + nI t - 1000) / 7 * 7).toNatClampNeg = t := by decide
  obtain ⟨a1, a2, a3⟩ := h1 t ht
  unfold rn1
  rw [if_pos a1, if_neg a2, a3]
theorem rn_neg {e : Nat → Int32} (x : Int32) (st : List Int32) : rn1 e 2000 (x :: st) = (-x) :: st := by
  unfold rn1
  rw [if_neg (by decide), if_pos rfl]
theorem rn_join {e : Nat → Int32} {c : Nat} (hc : c = 42 ∨ c = 43 ∨ c = 45 ∨ c = 47 ∨ c = 60 ∨ c = 61 ∨ c = 62) (x y : Int32) (st : List Int32) : rn1 e (3000 + nI c) (y :: x :: st) = jn (nI c) x y :: st := by
  have h1 : (¬ 3000 + nI c < 2000) ∧ (¬ 3000 + nI c = 2000) ∧ 3000 + nI c - 3000 = nI c := by
    rcases hc with rfl | rfl | rfl | rfl | rfl | rfl | rfl <;> decide
  unfold rn1
  rw [if_neg h1.1, if_neg h1.2.1, h1.2.2]
/-! numbers of up to three digits -/
def n3D (L M : Nat) (d : Nat → Nat) (i : Nat) : Nat := if sIn L M d i 48 57 then (if sIn L M d (i + 1) 48 57 then (if sIn L M d (i + 2) 48 57 then 3 else 2) else 1) else 0
def n3V (L M : Nat) (d : Nat → Nat) (i : Nat) : Nat := if sIn L M d (i + 1) 48 57 then (if sIn L M d (i + 2) 48 57 then 10 * (10 * (d i - 48) + (d (i + 1) - 48)) + (d (i + 2) - 48) else 10 * (d i - 48) + (d (i + 1) - 48)) else d i - 48
theorem n3_le {L M i : Nat} {d : Nat → Nat} (h : sIn L M d i 48 57) : 1 ≤ n3D L M d i ∧ i + n3D L M d i ≤ L ∧ i + n3D L M d i ≤ M ∧ n3V L M d i ≤ 999 := by
  unfold n3D n3V
  obtain ⟨a1, a2, a3, a4⟩ := id h
  rw [if_pos h]
  by_cases c : sIn L M d (i + 1) 48 57
  · obtain ⟨b1, b2, b3, b4⟩ := id c
    rw [if_pos c, if_pos c]
    by_cases c2 : sIn L M d (i + 2) 48 57
    · obtain ⟨e1, e2, e3, e4⟩ := id c2
      rw [if_pos c2, if_pos c2]; omega
    · rw [if_neg c2, if_neg c2]; omega
  · rw [if_neg c, if_neg c]; omega
theorem m100 {a : Nat} (h : a ≤ 99) : nI a * 10 = nI (10 * a) ∧ 10 * nI a = nI (10 * a) := by
  have : ∀ a, a < 100 → nI a * 10 = nI (10 * a) ∧ 10 * nI a = nI (10 * a) := by decide
  exact this a (by omega)
theorem c_num3 {L M i : Nat} {d : Nat → Nat} {σ : jT} (h : bX L M d σ) (hi : i ≤ 77) : f_X9_number 3 (gs σ 67 (nI i)) = some (if sIn L M d i 48 57 then nI (n3V L M d i) else -1, gs σ 67 (nI (i + n3D L M d i))) := by
  unfold f_X9_number
  have e1 : f_X9_number_b4 1000 3 (-1) 0 (gs σ 67 (nI i)) = _ := c_digs (fu := 999) (x := -1) 0 3 (by omega) h (show i ≤ 80 by omega) (by omega)
  rw [e1]
  by_cases c : sIn L M d i 48 57
  · obtain ⟨a1, a2, a3, a4⟩ := id c
    rw [if_pos c, if_pos rfl, show (0 : Int32) + nI (d i) = nI (d i) from Int32.zero_add _, sub48 a3, if_pos c]
    rw [c_digs (fu := 998) (x := nI (d i - 48)) 1 3 (by omega) h (show i + 1 ≤ 80 by omega) (by omega)]
    by_cases c2 : sIn L M d (i + 1) 48 57
    · obtain ⟨b1, b2, b3, b4⟩ := id c2
      rw [if_pos c2, if_neg (ja_neg1 (by omega)), (m100 (show d i - 48 ≤ 99 by omega)).1, ja_add, sub48 (by omega)]
      rw [show (1 + 1 : Nat) = 2 from rfl, c_digs (fu := 997) (x := nI (10 * (d i - 48) + d (i + 1) - 48)) 2 3 (by omega) h (show i + 1 + 1 ≤ 80 by omega) (by omega)]
      by_cases c3 : sIn L M d (i + 2) 48 57
      · obtain ⟨g1, g2, g3, g4⟩ := id c3
        rw [if_pos (show sIn L M d (i + 1 + 1) 48 57 from c3), if_neg (ja_neg1 (by omega)), (m100 (show 10 * (d i - 48) + d (i + 1) - 48 ≤ 99 by omega)).1, show d (i + 1 + 1) = d (i + 2) from rfl, ja_add, sub48 (by omega), show (997 : Nat) = 996 + 1 from rfl, f_X9_number_b4, if_pos (by decide)]
        unfold n3V n3D
        rw [if_pos c, if_pos c2, if_pos c3, if_pos c2, if_pos c3, show 10 * (10 * (d i - 48) + d (i + 1) - 48) + d (i + 2) - 48 = 10 * (10 * (d i - 48) + (d (i + 1) - 48)) + (d (i + 2) - 48) by omega]
      · rw [if_neg (show ¬ sIn L M d (i + 1 + 1) 48 57 from c3)]
        unfold n3V n3D
        rw [if_pos c, if_pos c2, if_neg c3, if_pos c2, if_neg c3, show 10 * (d i - 48) + d (i + 1) - 48 = 10 * (d i - 48) + (d (i + 1) - 48) by omega]
    · rw [if_neg c2]
      unfold n3V n3D
      rw [if_pos c, if_neg c2, if_neg c2]
  · rw [if_neg c, if_neg c]
    unfold n3D
    rw [if_neg c]; rfl
theorem cq_num3 {L i q : Nat} {d : Nat → Nat} {σ : jT} {D : Nat → Int32} (h : bX L 40 d σ) (hi : i ≤ 77) : f_X9_number 3 (cQ σ i q D) = some (if sIn L 40 d i 48 57 then nI (n3V L 40 d i) else -1, cQ σ (i + n3D L 40 d i) q D) := by
  have := c_num3 (cQ_B (i := i) (q := q) (D := D) h) hi
  rw [cQ_gs, cQ_gs] at this
  exact this
