/-! ===== THE RULE: what it tells ===== -/
def rnA (cd e : Nat → Int32) : Nat → Nat → List Int32 → List Int32
  | _, 0, st => st
  | x, m + 1, st => rnA cd e (x + 1) m (rn1 e (cd x) st)
theorem rnA_congr {cd cd' e : Nat → Int32} : ∀ (m x : Nat) (st : List Int32), (∀ z, x ≤ z → z < x + m → cd z = cd' z) → rnA cd e x m st = rnA cd' e x m st := by
  intro m
  induction m with
  | zero => intro x st _; rfl
  | succ m ih =>
    intro x st h
    show rnA cd e (x + 1) m (rn1 e (cd x) st) = rnA cd' e (x + 1) m (rn1 e (cd' x) st)
    rw [h x (by omega) (by omega)]
    exact ih _ _ (fun z h1 h2 => h z (by omega) (by omega))
theorem rn_list {e : Nat → Int32} (C : List Int32) : ∀ (D : Nat → Int32) (q : Nat) (st : List Int32), rnA (wr D q C) e q C.length st = rnL e C st := by
  induction C with
  | nil => intro D q st; rfl
  | cons c C ih =>
    intro D q st
    show rnA (wr (jx_up D q c) (q + 1) C) e (q + 1) C.length (rn1 e (wr (jx_up D q c) (q + 1) C q) st) = rnL e C (rn1 e c st)
    rw [wr_lt _ _ _ _ (show q < q + 1 by omega), show jx_up D q c q = c from if_pos rfl]
    exact ih _ _ _
/-- a row that holds a stack, its top last -/
def sk (A : Nat → Int32) : List Int32 → Prop
  | [] => True
  | x :: st => A st.length = x ∧ sk A st
theorem sk_up {A : Nat → Int32} {n : Nat} {v : Int32} : ∀ (st : List Int32), st.length ≤ n → sk A st → sk (jx_up A n v) st := by
  intro st
  induction st with
  | nil => intro _ _; trivial
  | cons x st ih =>
    intro h hs
    have h' : st.length + 1 ≤ n := h
    exact ⟨(if_neg (show ¬ st.length = n by omega)).trans hs.1, ih (by omega) hs.2⟩
def tQ (σ : jT) (A : Nat → Int32) : jT := (σ.1, fun o => if o = 10 then A else σ.2 o)
theorem tQ_gA (σ : jT) (A : Nat → Int32) (k : Nat) (v : Int32) : gA (tQ σ A) 10 k v = tQ σ (jx_up A k v) := by
  refine Prod.ext rfl (funext fun o => ?_)
  show (fun j => if o = 10 ∧ j = k then v else (if o = 10 then A else σ.2 o) j) = (if o = 10 then jx_up A k v else σ.2 o)
  by_cases a : o = 10
  · rw [if_pos a, if_pos a]
    funext j
    unfold jx_up
    by_cases b : j = k
    · rw [if_pos ⟨a, b⟩, if_pos b]
    · rw [if_neg (fun w => b w.2), if_neg b]
  · rw [if_neg a, if_neg a]
    funext j
    rw [if_neg (fun w => a w.1)]
theorem tl_step {fl x5 len : Nat} {k : Int32} {σ : jT} {A e : Nat → Int32} {st : List Int32} (hl : len ≤ 40) (h452 : σ.1 452 = nI len) (hx : x5 < len) (hst : st.length ≤ x5) (he : ∀ z, z < 7 → σ.2 11 z = e z) (hs : sk A st) :
    ∃ A', f_X7_tells_b56 (fl + 1) k (nI st.length) (nI x5) (tQ σ A) = f_X7_tells_b56 fl k (nI (rn1 e (σ.2 8 x5) st).length) (nI (x5 + 1)) (tQ σ A') ∧ sk A' (rn1 e (σ.2 8 x5) st) ∧ (rn1 e (σ.2 8 x5) st).length ≤ x5 + 1 := by
  have e1 : (tQ σ A).1 452 = nI len := h452
  have e8 : (tQ σ A).2 8 = σ.2 8 := rfl
  have e11 : (tQ σ A).2 11 = σ.2 11 := rfl
  have e10 : (tQ σ A).2 10 = A := rfl
  rw [f_X7_tells_b56, e1, if_neg (fun q => by have := (ja_le (by omega) (by omega)).1 q; omega), if_pos (ja_in (by omega) (by omega)), nI_clamp (by omega), e8, e11]
  generalize σ.2 8 x5 = c
  by_cases c1 : c < 2000
  · rw [if_neg (Int32.not_le.2 c1), if_neg (show ¬ (40 : Int32) ≤ nI st.length from nI_ge (b := 40) (by omega) (by omega))]
    unfold f_X7_tells_b122 f_X7_tells_b215
    by_cases c2 : c < 1000
    · have er : rn1 e c st = c :: st := by unfold rn1; rw [if_pos c1, if_pos c2]
      rw [if_neg (Int32.not_le.2 c2), if_pos (ja_in (by omega) (by omega)), nI_clamp (by omega), tQ_gA, nS, nS, er]
      exact ⟨_, rfl, ⟨if_pos rfl, sk_up _ (Nat.le_refl _) hs⟩, by show st.length + 1 ≤ _; omega⟩
    · have er : rn1 e c st = e ((c - 1000) - (c - 1000) / 7 * 7).toNatClampNeg :: st := by unfold rn1; rw [if_pos c1, if_neg c2]
      obtain ⟨n, hn, rfl⟩ := ja_of (x := c) (n := 2000) (fun q => c2 (by
        rw [Int32.lt_iff_toInt_lt] at q ⊢
        have a1 : (0 : Int32).toInt = 0 := by decide
        have a2 : (1000 : Int32).toInt = 1000 := by decide
        omega)) c1 (by omega)
      have hn2 : 1000 ≤ n := by
        by_cases z : n < 1000
        · exact absurd (nI_lt (b := 1000) z (by omega)) c2
        · omega
      have ei : (nI n - 1000) - (nI n - 1000) / 7 * 7 = nI ((n - 1000) % 7) := by
        rw [show nI n - 1000 = nI (n - 1000) from ja_sub (s := 1000) hn2]
        exact pk_rem (d := 7) (by omega) (by omega) (by omega)
      have h7 : (n - 1000) % 7 < 7 := Nat.mod_lt _ (by omega)
      generalize (n - 1000) % 7 = r at ei h7
      rw [ei] at er ⊢
      have ec : (nI r).toNatClampNeg = r := nI_clamp (by omega)
      rw [ec] at er
      rw [if_pos (Int32.not_lt.1 c2), if_pos (ja_in h7 (by omega)), if_pos (ja_in (by omega) (by omega)), ec, he _ h7, nI_clamp (by omega), tQ_gA, nS, nS, er]
      exact ⟨_, rfl, ⟨if_pos rfl, sk_up _ (Nat.le_refl _) hs⟩, by show st.length + 1 ≤ _; omega⟩
  · rw [if_pos (Int32.not_lt.1 c1)]
    unfold f_X7_tells_b129 f_X7_tells_b164 f_X7_tells_b215
    by_cases c2 : c = 2000
    · rw [if_neg (fun q => q c2)]
      cases st with
      | nil =>
        have er : rn1 e c [] = [] := by unfold rn1; rw [if_neg c1, if_pos c2]
        rw [er, if_pos (show nI ([] : List Int32).length ≤ 0 by decide), if_pos (show c ≤ 2000 by rw [c2]; decide), nS]
        exact ⟨A, rfl, trivial, Nat.zero_le _⟩
      | cons x r =>
        have er : rn1 e c (x :: r) = -x :: r := by unfold rn1; rw [if_neg c1, if_pos c2]
        have hlen : (x :: r).length = r.length + 1 := rfl
        rw [er]
        rw [hlen] at hst ⊢
        rw [if_neg (show ¬ nI (r.length + 1) ≤ 0 from nI_nle (by omega) (by omega)), nI_pred, if_pos (ja_in (by omega) (by omega)), nI_clamp (by omega), e10, hs.1, tQ_gA, nS]
        exact ⟨_, rfl, ⟨if_pos rfl, sk_up _ (Nat.le_refl _) hs.2⟩, by show r.length + 1 ≤ _; omega⟩
    · rw [if_pos c2]
      have c3 : ¬ c ≤ 2000 := fun q => c2 (by
        have q1 := Int32.not_lt.1 c1
        rw [Int32.le_iff_toInt_le] at q q1
        exact Int32.toInt_inj.mp (by omega))
      rw [if_neg c3]
      match st, hs, hst with
      | [], hs, hst =>
        have er : rn1 e c [] = [] := by unfold rn1; rw [if_neg c1, if_neg c2]
        rw [er, if_pos (show nI ([] : List Int32).length ≤ 1 by decide), nS]
        exact ⟨A, rfl, trivial, Nat.zero_le _⟩
      | [x], hs, hst =>
        have er : rn1 e c [x] = [x] := by unfold rn1; rw [if_neg c1, if_neg c2]
        rw [er, if_pos (show nI ([x] : List Int32).length ≤ 1 from (by decide : nI 1 ≤ 1)), nS]
        exact ⟨A, rfl, hs, by omega⟩
      | y :: x :: r, hs, hst =>
        have er : rn1 e c (y :: x :: r) = jn (c - 3000) x y :: r := by unfold rn1; rw [if_neg c1, if_neg c2]
        have hlen : (y :: x :: r).length = r.length + 2 := rfl
        rw [er]
        rw [hlen] at hst ⊢
        have hm : nI (r.length + 2) + -1 = nI (r.length + 1) := by
          rw [← Int32.sub_eq_add_neg]; exact nI_pred (r.length + 1)
        rw [hm, nI_pred, if_neg (show ¬ nI (r.length + 2) ≤ 1 from fun q => by have := (ja_le (b := 1) (by omega) (by omega)).1 q; omega), if_pos (ja_in (by omega) (by omega)), if_pos (ja_in (by omega) (by omega)), c_joined]
        simp only [bnd]
        have hy : A (r.length + 1) = y := hs.1
        have hx2 : A r.length = x := hs.2.1
        rw [nI_clamp (by omega), nI_clamp (by omega), e10, hy, hx2, tQ_gA, nS]
        exact ⟨_, rfl, ⟨if_pos rfl, sk_up _ (Nat.le_refl _) hs.2.2⟩, by show r.length + 1 ≤ _; omega⟩
theorem tl_run {len : Nat} {k : Int32} {σ : jT} {e : Nat → Int32} (hl : len ≤ 40) (h452 : σ.1 452 = nI len) (he : ∀ z, z < 7 → σ.2 11 z = e z) : ∀ (m x5 fl : Nat) (st : List Int32) (A : Nat → Int32), x5 + m = len → m < fl → st.length ≤ x5 → sk A st →
    ∃ A' fl' t, f_X7_tells_b56 fl k (nI st.length) (nI x5) (tQ σ A) = f_X7_tells_b56 (fl' + 1) k t (nI len) (tQ σ A') ∧ sk A' (rnA (σ.2 8) e x5 m st) ∧ (m = 0 → A' = A) := by
  intro m
  induction m with
  | zero =>
    intro x5 fl st A hx hf hst hs
    obtain ⟨fl, rfl⟩ : ∃ f', fl = f' + 1 := ⟨fl - 1, by omega⟩
    exact ⟨A, fl, nI st.length, by rw [show x5 = len by omega], hs, fun _ => rfl⟩
  | succ m ih =>
    intro x5 fl st A hx hf hst hs
    obtain ⟨fl, rfl⟩ : ∃ f', fl = f' + 1 := ⟨fl - 1, by omega⟩
    obtain ⟨A1, a1, a2, a3⟩ := tl_step (k := k) (fl := fl) hl h452 (show x5 < len by omega) hst he hs
    obtain ⟨A', fl', t, b1, b2, -⟩ := ih (x5 + 1) fl _ A1 (by omega) (by omega) a3 a2
    exact ⟨A', fl', t, a1.trans b1, b2, fun q => by omega⟩
/-- what is left of v, of k WAYS -/
def wayR (k v : Int32) : Int32 := if 0 ≤ v - v / k * k then v - v / k * k else (v - v / k * k) + k
theorem wayR_in {k v : Int32} (hk : k = 1 ∨ k = 2 ∨ k = 3) : ¬ wayR k v < 0 ∧ wayR k v < k := by
  have key : ∀ n : Int, 1 ≤ n → n ≤ 3 → k.toInt = n → -n < (v - v / k * k).toInt ∧ (v - v / k * k).toInt < n := by
    intro n h1 h3 hn
    have v1 := Int32.le_toInt v
    have v2 := Int32.toInt_lt v
    have ed : ∃ Q : Int, v.toInt.tdiv n = Q ∧ -n < v.toInt - Q * n ∧ v.toInt - Q * n < n ∧ -(2 ^ 31) ≤ Q ∧ Q < 2 ^ 31 ∧ -(2 ^ 31) ≤ Q * n ∧ Q * n < 2 ^ 31 := by
      refine ⟨_, rfl, ?_⟩
      by_cases hz : 0 ≤ v.toInt
      · rw [Int.tdiv_eq_ediv_of_nonneg hz]
        rcases (show n = 1 ∨ n = 2 ∨ n = 3 by omega) with rfl | rfl | rfl <;> omega
      · have e : v.toInt = -(-v.toInt) := by omega
        have e2 : v.toInt.tdiv n = -((-v.toInt) / n) := by
          rw [← Int.tdiv_eq_ediv_of_nonneg (show 0 ≤ -v.toInt by omega), ← Int.neg_tdiv, Int.neg_neg]
        rw [e2]
        rcases (show n = 1 ∨ n = 2 ∨ n = 3 by omega) with rfl | rfl | rfl <;> omega
    obtain ⟨Q, e1, e2, e3, e4, e5, e6, e7⟩ := ed
    have d1 : (v / k).toInt = Q := by
      rw [Int32.toInt_div, hn, e1]
      exact Int.bmod_eq_of_le (by omega) (by omega)
    have d2 : (v / k * k).toInt = Q * n := by
      rw [Int32.toInt_mul, d1, hn]
      exact Int.bmod_eq_of_le (by omega) (by omega)
    have d3 : (v - v / k * k).toInt = v.toInt - Q * n := by
      rw [Int32.toInt_sub, d2]
      exact Int.bmod_eq_of_le (by omega) (by omega)
    rw [d3]; exact ⟨e2, e3⟩
  have hn : ∃ n : Int, 1 ≤ n ∧ n ≤ 3 ∧ k.toInt = n := by
    rcases hk with rfl | rfl | rfl
    · exact ⟨1, by omega, by omega, by decide⟩
    · exact ⟨2, by omega, by omega, by decide⟩
    · exact ⟨3, by omega, by omega, by decide⟩
  obtain ⟨n, n1, n2, n3⟩ := hn
  obtain ⟨b1, b2⟩ := key n n1 n2 n3
  unfold wayR
  have z0 : (0 : Int32).toInt = 0 := by decide
  by_cases c : 0 ≤ v - v / k * k
  · rw [if_pos c]
    refine ⟨Int32.not_lt.2 c, ?_⟩
    rw [Int32.lt_iff_toInt_lt, n3]; exact b2
  · rw [if_neg c]
    have c' := Int32.not_le.1 c
    rw [Int32.lt_iff_toInt_lt, z0] at c'
    have ea : (v - v / k * k + k).toInt = (v - v / k * k).toInt + n := by
      rw [Int32.toInt_add, n3]
      exact Int.bmod_eq_of_le (by omega) (by omega)
    refine ⟨fun q => ?_, ?_⟩
    · rw [Int32.lt_iff_toInt_lt, ea, z0] at q; omega
    · rw [Int32.lt_iff_toInt_lt, ea, n3]; omega
theorem tl_end {fl len : Nat} {k t : Int32} {σ : jT} {A : Nat → Int32} (hl : len ≤ 40) (h452 : σ.1 452 = nI len) (hk : ¬ k = 0) : f_X7_tells_b56 (fl + 1) k t (nI len) (tQ σ A) = some (wayR k (A 0), tQ σ A) := by
  have e1 : (tQ σ A).1 452 = nI len := h452
  have e10 : (tQ σ A).2 10 = A := rfl
  rw [f_X7_tells_b56, e1, if_pos ((ja_le (by omega) (by omega)).2 (by omega)), if_neg hk, e10]
  unfold wayR
  split <;> rfl
theorem m_120 {k v : Int32} {τ : jT} (hk : ¬ k = 0) : f_X11_wayBy_b120 k v τ = some (wayR k v, τ) := by
  unfold f_X11_wayBy_b120 wayR
  rw [if_neg hk]
  split <;> rfl
/-- what the class tells -/
theorem c_tells {len : Nat} {a b k : Int32} {σ : jT} {e : Nat → Int32} {v : Int32} (hl : len ≤ 40) (h452 : σ.1 452 = nI len) (hk : k = 1 ∨ k = 2 ∨ k = 3) (h2 : σ.2 11 2 = k) (e0 : e 0 = a) (e1 : e 1 = b) (he : ∀ z, 2 ≤ z → z < 7 → σ.2 11 z = e z) (hv : (len = 0 ∧ v = (k - a - b) + (if k = 2 then a else 0)) ∨ rnA (σ.2 8) e 0 len [] = [v]) :
    ∃ A, f_X7_tells a b σ = some (wayR k v, tQ (gA (gA σ 11 0 a) 11 1 b) A) := by
  have hk0 : ¬ k = 0 := by rcases hk with rfl | rfl | rfl <;> decide
  have hk1 : (1 : Int32) ≤ k := by rcases hk with rfl | rfl | rfl <;> decide
  have hs : ∀ w : Int32, f_X7_tells_b51 k 0 (if k = 2 then a else 0) (k - a - b) 0 (gA (gA σ 11 0 a) 11 1 b) = f_X7_tells_b56 1000 k (nI ([] : List Int32).length) (nI 0) (tQ (gA (gA σ 11 0 a) 11 1 b) (jx_up (σ.2 10) 0 ((k - a - b) + (if k = 2 then a else 0)))) := by
    intro w
    unfold f_X7_tells_b51
    rw [if_pos (show jx_in 0 40 from ja_in (k := 0) (by omega) (by omega))]
    have eq : gA (gA (gA σ 11 0 a) 11 1 b) 10 (0 : Int32).toNatClampNeg (k - a - b + if k = 2 then a else 0) = tQ (gA (gA σ 11 0 a) 11 1 b) (jx_up (σ.2 10) 0 (k - a - b + if k = 2 then a else 0)) := by
      have := tQ_gA (gA (gA σ 11 0 a) 11 1 b) (σ.2 10) 0 (k - a - b + if k = 2 then a else 0)
      rw [← this]
      have e : tQ (gA (gA σ 11 0 a) 11 1 b) (σ.2 10) = gA (gA σ 11 0 a) 11 1 b := by
        refine Prod.ext rfl (funext fun o => ?_)
        show (if o = 10 then σ.2 10 else (gA (gA σ 11 0 a) 11 1 b).2 o) = (gA (gA σ 11 0 a) 11 1 b).2 o
        by_cases q : o = 10
        · rw [if_pos q, q]; rfl
        · rw [if_neg q]
      rw [e]; rfl
    rw [eq]
    rfl
  have ht : f_X7_tells a b σ = f_X7_tells_b51 k 0 (if k = 2 then a else 0) (k - a - b) 0 (gA (gA σ 11 0 a) 11 1 b) := by
    unfold f_X7_tells
    rw [h2, if_pos hk1]
    by_cases q : k = 2
    · rw [if_neg (fun w => w q), if_pos q]
    · rw [if_pos q, if_neg q]
  rw [ht, hs 0]
  have he' : ∀ z, z < 7 → (gA (gA σ 11 0 a) 11 1 b).2 11 z = e z := by
    intro z hz
    rw [ja_gA, ja_gA]
    by_cases z1 : z = 1
    · rw [if_pos ⟨rfl, z1⟩, z1, e1]
    · rw [if_neg (fun w => z1 w.2)]
      by_cases z0 : z = 0
      · rw [if_pos ⟨rfl, z0⟩, z0, e0]
      · rw [if_neg (fun w => z0 w.2)]
        exact he z (by omega) hz
  obtain ⟨A', fl', t, b1, b2, b3⟩ := tl_run (k := k) (σ := gA (gA σ 11 0 a) 11 1 b) (e := e) hl h452 he' len 0 1000 [] (jx_up (σ.2 10) 0 ((k - a - b) + (if k = 2 then a else 0))) (by omega) (by omega) (Nat.zero_le _) trivial
  rw [b1, tl_end hl (show (gA (gA σ 11 0 a) 11 1 b).1 452 = nI len from h452) hk0]
  refine ⟨A', ?_⟩
  rcases hv with ⟨q1, q2⟩ | q
  · rw [b3 q1, q2]
    rfl
  · have e8 : (gA (gA σ 11 0 a) 11 1 b).2 8 = σ.2 8 := rfl
    rw [e8, q] at b2
    rw [show A' 0 = v from b2.1]
