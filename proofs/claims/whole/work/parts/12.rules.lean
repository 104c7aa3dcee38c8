/-! ===== the small machine, goal first ===== -/
theorem jx_mono {MS : List jx_M} : ∀ (n d : Nat) (bl : jx_B) (rem : List jx_E) (ls st : List Value) (h : jx_H) (r : Option Value × jx_H), jx_x MS d n bl rem ls st h = some r → ∀ n' d', n ≤ n' → d ≤ d' → jx_x MS d' n' bl rem ls st h = some r
  | 0, d, bl, rem, ls, st, h, r, hx => by cases hx
  | n + 1, d, bl, [], ls, st, h, r, hx => by cases hx
  | n + 1, d, bl, e :: t, ls, st, h, r, hx => by
    intro n' d' hn hd
    obtain ⟨k, rfl⟩ : ∃ k, n' = k + 1 := ⟨n' - 1, by omega⟩
    unfold jx_x at hx ⊢
    simp only at hx ⊢
    cases hq : jx_s bl e t ls st h with
    | none => simp only [hq] at hx; cases hx
    | some q =>
      simp only [hq] at hx ⊢
      rcases q with q | q | v
      · exact jx_mono n d bl _ _ _ _ r hx k d' (by omega) hd
      · simp only at hx ⊢
        cases d with
        | zero => simp at hx
        | succ d0 =>
          obtain ⟨d1, rfl⟩ : ∃ d1, d' = d1 + 1 := ⟨d' - 1, by omega⟩
          cases hi : MS[q.1]? with
          | none => simp [hi] at hx
          | some i =>
            simp only [hi] at hx ⊢
            by_cases hlen : q.2.1.length = i.2.2.2.2.2.1 ∧ q.2.1.all (fun v => decide (v.category = 1)) = true
            · rw [if_pos hlen] at hx ⊢
              cases hy : jx_x MS d0 n i.2.2.2.2.2.2.2 (jx_at i.2.2.2.2.2.2.2 0) (q.2.1 ++ List.replicate (i.2.2.1 - q.2.1.length) (.retAddr 0)) [] h with
              | none => simp [hy] at hx
              | some y =>
                rw [hy] at hx
                rw [jx_mono n d0 _ _ _ _ _ y hy k d1 (by omega) (by omega)]
                exact jx_mono n _ _ _ _ _ _ r hx k (d1 + 1) (by omega) hd
            · rw [if_neg hlen] at hx
              cases hx
      · exact hx
def jx_Ex (d : Nat) (bl : jx_B) (rem : List jx_E) (ls st : List Value) (h : jx_H) (Q : Option Value → jx_H → Prop) : Prop := ∃ n v h', jx_x jm_MS d n bl rem ls st h = some (v, h') ∧ Q v h'
def jx_Sp (d m : Nat) (as : List Value) (h : jx_H) (Q : Option Value → jx_H → Prop) : Prop := ∃ i, jm_MS[m]? = some i ∧ as.length = i.2.2.2.2.2.1 ∧ as.all (fun v => decide (v.category = 1)) = true ∧ jx_Ex d i.2.2.2.2.2.2.2 (jx_at i.2.2.2.2.2.2.2 0) (as ++ List.replicate (i.2.2.1 - as.length) (.retAddr 0)) [] h Q
section JXE
variable {d : Nat} {bl : jx_B} {e : jx_E} {r r' : List jx_E} {ls st ls' st' : List Value} {h h1 : jx_H} {Q : Option Value → jx_H → Prop}
theorem jx_Ex.next (hs : jx_s bl e r ls st h = some (.inl (r', ls', st', h1))) (k : jx_Ex d bl r' ls' st' h1 Q) : jx_Ex d bl (e :: r) ls st h Q := by
  obtain ⟨n, v, h', hx, hq⟩ := k
  refine ⟨n + 1, v, h', ?_, hq⟩
  unfold jx_x
  simp only [hs]
  exact hx
theorem jx_Ex.ret {v : Option Value} (hs : jx_s bl e r ls st h = some (.inr (.inr v))) (hq : Q v h) : jx_Ex d bl (e :: r) ls st h Q := by
  refine ⟨1, v, h, ?_, hq⟩
  unfold jx_x
  simp only [hs]
theorem jx_Ex.call {m : Nat} {as : List Value} (hs : jx_s bl e r ls st h = some (.inr (.inl (m, as, r', ls', st')))) (k : jx_Sp d m as h (fun v h1 => jx_Ex (d + 1) bl r' ls' (v.toList ++ st') h1 Q)) : jx_Ex (d + 1) bl (e :: r) ls st h Q := by
  obtain ⟨i, hi, hl, hc, n1, v1, h1, hx1, n2, v2, h2, hx2, hq⟩ := k
  refine ⟨n1 + n2 + 1, v2, h2, ?_, hq⟩
  unfold jx_x
  simp only [hs, hi]
  rw [if_pos ⟨hl, hc⟩, jx_mono n1 d _ _ _ _ _ _ hx1 (n1 + n2) d (by omega) (by omega)]
  exact jx_mono n2 (d + 1) _ _ _ _ _ _ hx2 (n1 + n2) (d + 1) (by omega) (by omega)
theorem jx_Sp.mono {d' m : Nat} {as : List Value} (hd : d ≤ d') (k : jx_Sp d m as h Q) : jx_Sp d' m as h Q := by
  obtain ⟨i, hi, hl, hc, n1, v1, h1, hx1, hq⟩ := k
  exact ⟨i, hi, hl, hc, n1, v1, h1, jx_mono n1 d _ _ _ _ _ _ hx1 n1 d' (by omega) hd, hq⟩
end JXE
/-- one side of the worlds: its cells lo .. hi, the row of kinds, references, and the other side's numbers -/
abbrev jS : Type := Nat × Nat × List (Nat × Nat) × (Nat → Value) × (Nat → Int32) × (Nat → Nat → Int32)
abbrev jT : Type := (Nat → Int32) × (Nat → Nat → Int32)
def jh (S : jS) (σ : jT) : jx_H := (S.2.2.1, S.2.2.2.1, (fun i => if 64 * S.1 ≤ i ∧ i < 64 * S.2.1 then σ.1 i else S.2.2.2.2.1 i), fun o j => if S.1 ≤ o ∧ o < S.2.1 then σ.2 o j else S.2.2.2.2.2 o j)
def gs (σ : jT) (i : Nat) (v : Int32) : jT := (jx_up σ.1 i v, σ.2)
def gA (σ : jT) (o j : Nat) (v : Int32) : jT := (σ.1, jx_up2 σ.2 o j v)
def gC (σ : jT) (o q sp dp n : Nat) : jT := (σ.1, fun z => if z = q then va_cpy (σ.2 o) (σ.2 q) sp dp n else σ.2 z)
def jLAY : List (Nat × Nat) := [(20, 14), (19, 4), (0, 80), (13, 6), (0, 10), (0, 30), (0, 6), (17, 6), (0, 40), (0, 40), (0, 40), (0, 7), (18, 1), (0, 28), (12, 5), (4, 13), (18, 1), (0, 28), (18, 1), (0, 28), (18, 1), (0, 28), (18, 1), (0, 28), (18, 1), (0, 28), (18, 1), (0, 28), (18, 1), (0, 28), (18, 1), (0, 28), (18, 1), (0, 28), (18, 1), (0, 28), (18, 1), (0, 28), (18, 1), (0, 28), (18, 1), (0, 28), (4, 2), (18, 1), (0, 28), (18, 1), (0, 28), (16, 2), (0, 16), (15, 13), (0, 2), (0, 2), (0, 2), (0, 2), (0, 2), (10, 4), (0, 360), (0, 10), (14, 4), (0, 36), (0, 6), (0, 6), (0, 20), (0, 6), (0, 10), (21, 52), (0, 28), (0, 10), (0, 30), (0, 6), (0, 60), (1, 80), (0, 40), (0, 10), (0, 30), (0, 30), (0, 66), (1, 40), (0, 7), (0, 336), (0, 28), (0, 240), (0, 28), (0, 10), (0, 360), (0, 10), (0, 6), (0, 6), (0, 20), (0, 6), (0, 3), (0, 6), (0, 56), (2, 2), (0, 2)]
def jPtab : List (Nat × Nat) := [(0, 1), (1, 3), (2, 7), (3, 12), (4, 14), (5, 47), (6, 49), (7, 55), (8, 58), (9, 62), (10, 63), (11, 64), (64, 2), (192, 4), (193, 5), (194, 6), (448, 8), (449, 9), (450, 10), (451, 11), (768, 13), (896, 15), (897, 42), (960, 16), (961, 18), (962, 20), (963, 22), (964, 24), (965, 26), (966, 28), (967, 30), (968, 32), (969, 34), (970, 36), (971, 38), (972, 40), (1024, 17), (1152, 19), (1280, 21), (1408, 23), (1536, 25), (1664, 27), (1792, 29), (1920, 31), (2048, 33), (2176, 35), (2304, 37), (2432, 39), (2560, 41), (2688, 43), (2689, 45), (2752, 44), (2880, 46), (3008, 48), (3136, 3), (3137, 7), (3138, 12), (3139, 50), (3140, 51), (3141, 52), (3142, 53), (3143, 54), (3520, 3), (3521, 49), (3522, 56), (3523, 57), (3712, 59), (3713, 60), (3714, 61), (4160, 66), (4162, 67), (4163, 68), (4166, 69), (4167, 70), (4168, 71), (4170, 72), (4178, 73), (4179, 74), (4180, 75), (4182, 76), (4183, 77), (4186, 78), (4188, 79), (4190, 80), (4192, 81), (4194, 82), (4195, 83), (4197, 84), (4198, 85), (4199, 86), (4200, 87), (4202, 88), (4204, 89), (4205, 90), (4207, 91), (4209, 92), (4210, 93), (4211, 94)]
/-- the side of the class; the side of the model -/
def jCok (S : jS) : Prop := S.1 = 0 ∧ S.2.1 = 65 ∧ (∀ i, i < 95 → S.2.2.1[i]? = jLAY[i]?) ∧ ∀ q ∈ jPtab, S.2.2.2.1 q.1 = .ref q.2
def jMok (S : jS) : Prop := S.1 = 65 ∧ S.2.1 = 95 ∧ (∀ i, i < 95 → S.2.2.1[i]? = jLAY[i]?) ∧ ∀ q ∈ jPtab, S.2.2.2.1 q.1 = .ref q.2
def jSrd (S : jS) (v : Value) : jS := (S.1, S.2.1, S.2.2.1, jx_up S.2.2.2.1 4173 v, S.2.2.2.2)
theorem jSrd_ok {S : jS} (hS : jMok S) (v : Value) : jMok (jSrd S v) := ⟨hS.1, hS.2.1, hS.2.2.1, fun q hq => by
  have hne : ∀ q ∈ jPtab, q.1 ≠ 4173 := by decide
  show jx_up S.2.2.2.1 4173 v q.1 = .ref q.2
  simp [jx_up, hne q hq, hS.2.2.2 q hq]⟩
theorem jSrd_rd {S : jS} (v : Value) : (jSrd S v).2.2.2.1 4173 = v := by simp [jSrd, jx_up]
theorem jSrd_twice (S : jS) (v w : Value) : jSrd (jSrd S v) w = jSrd S w := by
  unfold jSrd
  have : jx_up (jx_up S.2.2.2.1 4173 v) 4173 w = jx_up S.2.2.2.1 4173 w := by
    funext j
    by_cases h : j = 4173 <;> simp [jx_up, h]
  simp only [this]
theorem ly0 : jLAY[0]? = some (10 + 10, jx_N 10) := rfl
theorem ly1 : jLAY[1]? = some (10 + 9, jx_N 9) := rfl
theorem ly2 : jLAY[2]? = some (0, 80) := rfl
theorem ly3 : jLAY[3]? = some (10 + 3, jx_N 3) := rfl
theorem ly4 : jLAY[4]? = some (0, 10) := rfl
theorem ly5 : jLAY[5]? = some (0, 30) := rfl
theorem ly6 : jLAY[6]? = some (0, 6) := rfl
theorem ly7 : jLAY[7]? = some (10 + 7, jx_N 7) := rfl
theorem ly8 : jLAY[8]? = some (0, 40) := rfl
theorem ly9 : jLAY[9]? = some (0, 40) := rfl
theorem ly10 : jLAY[10]? = some (0, 40) := rfl
theorem ly11 : jLAY[11]? = some (0, 7) := rfl
theorem ly12 : jLAY[12]? = some (10 + 8, jx_N 8) := rfl
theorem ly13 : jLAY[13]? = some (0, 28) := rfl
theorem ly14 : jLAY[14]? = some (10 + 2, jx_N 2) := rfl
theorem ly15 : jLAY[15]? = some (4, 13) := rfl
theorem ly16 : jLAY[16]? = some (10 + 8, jx_N 8) := rfl
theorem ly17 : jLAY[17]? = some (0, 28) := rfl
theorem ly18 : jLAY[18]? = some (10 + 8, jx_N 8) := rfl
theorem ly19 : jLAY[19]? = some (0, 28) := rfl
theorem ly20 : jLAY[20]? = some (10 + 8, jx_N 8) := rfl
theorem ly21 : jLAY[21]? = some (0, 28) := rfl
theorem ly22 : jLAY[22]? = some (10 + 8, jx_N 8) := rfl
theorem ly23 : jLAY[23]? = some (0, 28) := rfl
theorem ly24 : jLAY[24]? = some (10 + 8, jx_N 8) := rfl
theorem ly25 : jLAY[25]? = some (0, 28) := rfl
theorem ly26 : jLAY[26]? = some (10 + 8, jx_N 8) := rfl
theorem ly27 : jLAY[27]? = some (0, 28) := rfl
theorem ly28 : jLAY[28]? = some (10 + 8, jx_N 8) := rfl
theorem ly29 : jLAY[29]? = some (0, 28) := rfl
theorem ly30 : jLAY[30]? = some (10 + 8, jx_N 8) := rfl
theorem ly31 : jLAY[31]? = some (0, 28) := rfl
theorem ly32 : jLAY[32]? = some (10 + 8, jx_N 8) := rfl
theorem ly33 : jLAY[33]? = some (0, 28) := rfl
theorem ly34 : jLAY[34]? = some (10 + 8, jx_N 8) := rfl
theorem ly35 : jLAY[35]? = some (0, 28) := rfl
theorem ly36 : jLAY[36]? = some (10 + 8, jx_N 8) := rfl
theorem ly37 : jLAY[37]? = some (0, 28) := rfl
theorem ly38 : jLAY[38]? = some (10 + 8, jx_N 8) := rfl
theorem ly39 : jLAY[39]? = some (0, 28) := rfl
theorem ly40 : jLAY[40]? = some (10 + 8, jx_N 8) := rfl
theorem ly41 : jLAY[41]? = some (0, 28) := rfl
theorem ly42 : jLAY[42]? = some (4, 2) := rfl
theorem ly43 : jLAY[43]? = some (10 + 8, jx_N 8) := rfl
theorem ly44 : jLAY[44]? = some (0, 28) := rfl
theorem ly45 : jLAY[45]? = some (10 + 8, jx_N 8) := rfl
theorem ly46 : jLAY[46]? = some (0, 28) := rfl
theorem ly47 : jLAY[47]? = some (10 + 6, jx_N 6) := rfl
theorem ly48 : jLAY[48]? = some (0, 16) := rfl
theorem ly49 : jLAY[49]? = some (10 + 5, jx_N 5) := rfl
theorem ly50 : jLAY[50]? = some (0, 2) := rfl
theorem ly51 : jLAY[51]? = some (0, 2) := rfl
theorem ly52 : jLAY[52]? = some (0, 2) := rfl
theorem ly53 : jLAY[53]? = some (0, 2) := rfl
theorem ly54 : jLAY[54]? = some (0, 2) := rfl
theorem ly55 : jLAY[55]? = some (10 + 0, jx_N 0) := rfl
theorem ly56 : jLAY[56]? = some (0, 360) := rfl
theorem ly57 : jLAY[57]? = some (0, 10) := rfl
theorem ly58 : jLAY[58]? = some (10 + 4, jx_N 4) := rfl
theorem ly59 : jLAY[59]? = some (0, 36) := rfl
theorem ly60 : jLAY[60]? = some (0, 6) := rfl
theorem ly61 : jLAY[61]? = some (0, 6) := rfl
theorem ly62 : jLAY[62]? = some (0, 20) := rfl
theorem ly63 : jLAY[63]? = some (0, 6) := rfl
theorem ly64 : jLAY[64]? = some (0, 10) := rfl
theorem ly65 : jLAY[65]? = some (10 + 11, jx_N 11) := rfl
theorem ly66 : jLAY[66]? = some (0, 28) := rfl
theorem ly67 : jLAY[67]? = some (0, 10) := rfl
theorem ly68 : jLAY[68]? = some (0, 30) := rfl
theorem ly69 : jLAY[69]? = some (0, 6) := rfl
theorem ly70 : jLAY[70]? = some (0, 60) := rfl
theorem ly71 : jLAY[71]? = some (1, 80) := rfl
theorem ly72 : jLAY[72]? = some (0, 40) := rfl
theorem ly73 : jLAY[73]? = some (0, 10) := rfl
theorem ly74 : jLAY[74]? = some (0, 30) := rfl
theorem ly75 : jLAY[75]? = some (0, 30) := rfl
theorem ly76 : jLAY[76]? = some (0, 66) := rfl
theorem ly77 : jLAY[77]? = some (1, 40) := rfl
theorem ly78 : jLAY[78]? = some (0, 7) := rfl
theorem ly79 : jLAY[79]? = some (0, 336) := rfl
theorem ly80 : jLAY[80]? = some (0, 28) := rfl
theorem ly81 : jLAY[81]? = some (0, 240) := rfl
theorem ly82 : jLAY[82]? = some (0, 28) := rfl
theorem ly83 : jLAY[83]? = some (0, 10) := rfl
theorem ly84 : jLAY[84]? = some (0, 360) := rfl
theorem ly85 : jLAY[85]? = some (0, 10) := rfl
theorem ly86 : jLAY[86]? = some (0, 6) := rfl
theorem ly87 : jLAY[87]? = some (0, 6) := rfl
theorem ly88 : jLAY[88]? = some (0, 20) := rfl
theorem ly89 : jLAY[89]? = some (0, 6) := rfl
theorem ly90 : jLAY[90]? = some (0, 3) := rfl
theorem ly91 : jLAY[91]? = some (0, 6) := rfl
theorem ly92 : jLAY[92]? = some (0, 56) := rfl
theorem ly93 : jLAY[93]? = some (2, 2) := rfl
theorem ly94 : jLAY[94]? = some (0, 2) := rfl
section JXR
variable {d : Nat} {bl : jx_B} {pc a b c d0 : Nat} {x : Int32} {L : List (Int32 × Nat)} {r : List jx_E} {ls ls' st : List Value} {h : jx_H} {Q : Option Value → jx_H → Prop} {S : jS} {σ : jT}
theorem xo_0 {v : Int32} (hl : ls[a]? = some (.int v)) (k : jx_Ex d bl r ls (.int v :: st) h Q) : jx_Ex d bl ((pc, 0, (a, b, c, d0), x, L) :: r) ls st h Q := jx_Ex.next (by simp only [jx_s, hl]; rfl) k
theorem xo_1 {v : Int32} (hl : ls[a]? = some (.int v)) (k : jx_Ex d bl r ls (.int v :: st) h Q) : jx_Ex d bl ((pc, 1, (a, b, c, d0), x, L) :: r) ls st h Q := jx_Ex.next (by simp only [jx_s, hl]; rfl) k
theorem xo_2 {v : Nat} (hl : ls[a]? = some (.ref v)) (k : jx_Ex d bl r ls (.ref v :: st) h Q) : jx_Ex d bl ((pc, 2, (a, b, c, d0), x, L) :: r) ls st h Q := jx_Ex.next (by simp only [jx_s, hl]; rfl) k
theorem xo_3 {v : Nat} (hl : ls[a]? = some (.ref v)) (k : jx_Ex d bl r ls (.ref v :: st) h Q) : jx_Ex d bl ((pc, 3, (a, b, c, d0), x, L) :: r) ls st h Q := jx_Ex.next (by simp only [jx_s, hl]; rfl) k
theorem xo_4 {v : Int32} (hl : ls.set a (.int v) = ls') (k : jx_Ex d bl r ls' st h Q) : jx_Ex d bl ((pc, 4, (a, b, c, d0), x, L) :: r) ls (.int v :: st) h Q := jx_Ex.next (by simp only [jx_s, hl]; rfl) k
theorem xo_5 {v : Int32} (hl : ls.set a (.int v) = ls') (k : jx_Ex d bl r ls' st h Q) : jx_Ex d bl ((pc, 5, (a, b, c, d0), x, L) :: r) ls (.int v :: st) h Q := jx_Ex.next (by simp only [jx_s, hl]; rfl) k
theorem xo_6 {v : Nat} (hl : ls.set a (.ref v) = ls') (k : jx_Ex d bl r ls' st h Q) : jx_Ex d bl ((pc, 6, (a, b, c, d0), x, L) :: r) ls (.ref v :: st) h Q := jx_Ex.next (by simp only [jx_s, hl]; rfl) k
theorem xo_7 {v : Nat} (hl : ls.set a (.ref v) = ls') (k : jx_Ex d bl r ls' st h Q) : jx_Ex d bl ((pc, 7, (a, b, c, d0), x, L) :: r) ls (.ref v :: st) h Q := jx_Ex.next (by simp only [jx_s, hl]; rfl) k
theorem xo_8  (k : jx_Ex d bl r ls (.int x :: st) h Q) : jx_Ex d bl ((pc, 8, (a, b, c, d0), x, L) :: r) ls st h Q := jx_Ex.next (rfl) k
theorem xo_9  (k : jx_Ex d bl r ls (.int x :: st) h Q) : jx_Ex d bl ((pc, 9, (a, b, c, d0), x, L) :: r) ls st h Q := jx_Ex.next (rfl) k
theorem xo_10  (k : jx_Ex d bl r ls (.int x :: st) h Q) : jx_Ex d bl ((pc, 10, (a, b, c, d0), x, L) :: r) ls st h Q := jx_Ex.next (rfl) k
theorem xo_11  (k : jx_Ex d bl r ls (.int x :: st) h Q) : jx_Ex d bl ((pc, 11, (a, b, c, d0), x, L) :: r) ls st h Q := jx_Ex.next (rfl) k
theorem xo_12  (k : jx_Ex d bl r ls (.int x :: st) h Q) : jx_Ex d bl ((pc, 12, (a, b, c, d0), x, L) :: r) ls st h Q := jx_Ex.next (rfl) k
theorem xo_13 {v : Int32} (hl : ls[a]? = some (.int v)) (hl' : ls.set a (.int (v + x)) = ls') (k : jx_Ex d bl r ls' st h Q) : jx_Ex d bl ((pc, 13, (a, b, c, d0), x, L) :: r) ls st h Q := jx_Ex.next (by simp only [jx_s, hl, hl']; rfl) k
theorem xo_14 {y z : Int32} (k : jx_Ex d bl r ls (.int (z + y) :: st) h Q) : jx_Ex d bl ((pc, 14, (a, b, c, d0), x, L) :: r) ls (.int y :: .int z :: st) h Q := jx_Ex.next (rfl) k
theorem xo_15 {y z : Int32} (k : jx_Ex d bl r ls (.int (z - y) :: st) h Q) : jx_Ex d bl ((pc, 15, (a, b, c, d0), x, L) :: r) ls (.int y :: .int z :: st) h Q := jx_Ex.next (rfl) k
theorem xo_16 {y z : Int32} (k : jx_Ex d bl r ls (.int (z * y) :: st) h Q) : jx_Ex d bl ((pc, 16, (a, b, c, d0), x, L) :: r) ls (.int y :: .int z :: st) h Q := jx_Ex.next (rfl) k
theorem xo_20 {y z : Int32} (k : jx_Ex d bl r ls (.int (z &&& y) :: st) h Q) : jx_Ex d bl ((pc, 20, (a, b, c, d0), x, L) :: r) ls (.int y :: .int z :: st) h Q := jx_Ex.next (rfl) k
theorem xo_21 {y z : Int32} (k : jx_Ex d bl r ls (.int (z ||| y) :: st) h Q) : jx_Ex d bl ((pc, 21, (a, b, c, d0), x, L) :: r) ls (.int y :: .int z :: st) h Q := jx_Ex.next (rfl) k
theorem xo_22 {y z : Int32} (k : jx_Ex d bl r ls (.int (z ^^^ y) :: st) h Q) : jx_Ex d bl ((pc, 22, (a, b, c, d0), x, L) :: r) ls (.int y :: .int z :: st) h Q := jx_Ex.next (rfl) k
theorem xo_23 {y z : Int32} (k : jx_Ex d bl r ls (.int (z <<< (y &&& 31)) :: st) h Q) : jx_Ex d bl ((pc, 23, (a, b, c, d0), x, L) :: r) ls (.int y :: .int z :: st) h Q := jx_Ex.next (rfl) k
theorem xo_24 {y z : Int32} (k : jx_Ex d bl r ls (.int (z >>> (y &&& 31)) :: st) h Q) : jx_Ex d bl ((pc, 24, (a, b, c, d0), x, L) :: r) ls (.int y :: .int z :: st) h Q := jx_Ex.next (rfl) k
theorem xo_25 {y z : Int32} (k : jx_Ex d bl r ls (.int ((z.toUInt32 >>> (y.toUInt32 &&& Int32.toUInt32 31)).toInt32) :: st) h Q) : jx_Ex d bl ((pc, 25, (a, b, c, d0), x, L) :: r) ls (.int y :: .int z :: st) h Q := jx_Ex.next (rfl) k
theorem xo_72 {y z : Int32} (h8 : jx_c8 st) (k : jx_Ex d bl r ls (.int (jx_max z y) :: st) h Q) : jx_Ex d bl ((pc, 72, (a, b, c, d0), x, L) :: r) ls (.int y :: .int z :: st) h Q := jx_Ex.next (by simp only [jx_s, if_pos h8]; rfl) k
theorem xo_73 {y z : Int32} (h8 : jx_c8 st) (k : jx_Ex d bl r ls (.int (jx_min z y) :: st) h Q) : jx_Ex d bl ((pc, 73, (a, b, c, d0), x, L) :: r) ls (.int y :: .int z :: st) h Q := jx_Ex.next (by simp only [jx_s, if_pos h8]; rfl) k
theorem xo_17 {y z : Int32} (hy : ¬ y = 0) (k : jx_Ex d bl r ls (.int (z / y) :: st) h Q) : jx_Ex d bl ((pc, 17, (a, b, c, d0), x, L) :: r) ls (.int y :: .int z :: st) h Q := jx_Ex.next (by simp only [jx_s, if_neg hy]; rfl) k
theorem xo_18 {y z : Int32} (hy : ¬ y = 0) (k : jx_Ex d bl r ls (.int (z - z / y * y) :: st) h Q) : jx_Ex d bl ((pc, 18, (a, b, c, d0), x, L) :: r) ls (.int y :: .int z :: st) h Q := jx_Ex.next (by simp only [jx_s, if_neg hy]; rfl) k
theorem xo_19 {y : Int32} (k : jx_Ex d bl r ls (.int (-y) :: st) h Q) : jx_Ex d bl ((pc, 19, (a, b, c, d0), x, L) :: r) ls (.int y :: st) h Q := jx_Ex.next (rfl) k
theorem xo_26 {y : Int32} (k : jx_Ex d bl r ls (.int (y.toInt8.toInt32) :: st) h Q) : jx_Ex d bl ((pc, 26, (a, b, c, d0), x, L) :: r) ls (.int y :: st) h Q := jx_Ex.next (rfl) k
theorem xo_27 {y : Int32} (k : jx_Ex d bl r ls (.int (y.toInt16.toInt32) :: st) h Q) : jx_Ex d bl ((pc, 27, (a, b, c, d0), x, L) :: r) ls (.int y :: st) h Q := jx_Ex.next (rfl) k
theorem xo_28i {y : Int32} (k : jx_Ex d bl r ls (.int y :: .int y :: st) h Q) : jx_Ex d bl ((pc, 28, (a, b, c, d0), x, L) :: r) ls (.int y :: st) h Q := jx_Ex.next rfl k
theorem xo_28r {y : Nat} (k : jx_Ex d bl r ls (.ref y :: .ref y :: st) h Q) : jx_Ex d bl ((pc, 28, (a, b, c, d0), x, L) :: r) ls (.ref y :: st) h Q := jx_Ex.next rfl k
theorem xo_29 {y : Int32} {z : Nat} (k : jx_Ex d bl r ls (.int y :: .ref z :: .int y :: .ref z :: st) h Q) : jx_Ex d bl ((pc, 29, (a, b, c, d0), x, L) :: r) ls (.int y :: .ref z :: st) h Q := jx_Ex.next (rfl) k
theorem xo_30 {y : Int32} {z : Nat} (k : jx_Ex d bl r ls (.int y :: .ref z :: .int y :: st) h Q) : jx_Ex d bl ((pc, 30, (a, b, c, d0), x, L) :: r) ls (.int y :: .ref z :: st) h Q := jx_Ex.next (rfl) k
theorem xo_31 {y : Int32} (k : jx_Ex d bl r ls st h Q) : jx_Ex d bl ((pc, 31, (a, b, c, d0), x, L) :: r) ls (.int y :: st) h Q := jx_Ex.next (rfl) k
theorem xo_54 {t : List jx_E} (hb : jx_at bl a = t) (k : jx_Ex d bl t ls st h Q) : jx_Ex d bl ((pc, 54, (a, b, c, d0), x, L) :: r) ls st h Q := jx_Ex.next (by simp only [jx_s, hb]; rfl) k
theorem xo_55 {z : Int32} {t : List jx_E} (hb : jx_at bl a = t) (kt : z = 0 → jx_Ex d bl t ls st h Q) (kf : ¬ (z = 0) → jx_Ex d bl r ls st h Q) : jx_Ex d bl ((pc, 55, (a, b, c, d0), x, L) :: r) ls (.int z :: st) h Q := by
  subst hb
  by_cases hc : z = 0
  · exact jx_Ex.next (by simp only [jx_s, if_pos hc]; rfl) (kt hc)
  · exact jx_Ex.next (by simp only [jx_s, if_neg hc]; rfl) (kf hc)
theorem xo_61 {y z : Int32} {t : List jx_E} (hb : jx_at bl a = t) (kt : z = y → jx_Ex d bl t ls st h Q) (kf : ¬ (z = y) → jx_Ex d bl r ls st h Q) : jx_Ex d bl ((pc, 61, (a, b, c, d0), x, L) :: r) ls (.int y :: .int z :: st) h Q := by
  subst hb
  by_cases hc : z = y
  · exact jx_Ex.next (by simp only [jx_s, if_pos hc]; rfl) (kt hc)
  · exact jx_Ex.next (by simp only [jx_s, if_neg hc]; rfl) (kf hc)
theorem xo_56 {z : Int32} {t : List jx_E} (hb : jx_at bl a = t) (kt : ¬ z = 0 → jx_Ex d bl t ls st h Q) (kf : ¬ (¬ z = 0) → jx_Ex d bl r ls st h Q) : jx_Ex d bl ((pc, 56, (a, b, c, d0), x, L) :: r) ls (.int z :: st) h Q := by
  subst hb
  by_cases hc : ¬ z = 0
  · exact jx_Ex.next (by simp only [jx_s, if_pos hc]; rfl) (kt hc)
  · exact jx_Ex.next (by simp only [jx_s, if_neg hc]; rfl) (kf hc)
theorem xo_62 {y z : Int32} {t : List jx_E} (hb : jx_at bl a = t) (kt : ¬ z = y → jx_Ex d bl t ls st h Q) (kf : ¬ (¬ z = y) → jx_Ex d bl r ls st h Q) : jx_Ex d bl ((pc, 62, (a, b, c, d0), x, L) :: r) ls (.int y :: .int z :: st) h Q := by
  subst hb
  by_cases hc : ¬ z = y
  · exact jx_Ex.next (by simp only [jx_s, if_pos hc]; rfl) (kt hc)
  · exact jx_Ex.next (by simp only [jx_s, if_neg hc]; rfl) (kf hc)
theorem xo_57 {z : Int32} {t : List jx_E} (hb : jx_at bl a = t) (kt : z < 0 → jx_Ex d bl t ls st h Q) (kf : ¬ (z < 0) → jx_Ex d bl r ls st h Q) : jx_Ex d bl ((pc, 57, (a, b, c, d0), x, L) :: r) ls (.int z :: st) h Q := by
  subst hb
  by_cases hc : z < 0
  · exact jx_Ex.next (by simp only [jx_s, if_pos hc]; rfl) (kt hc)
  · exact jx_Ex.next (by simp only [jx_s, if_neg hc]; rfl) (kf hc)
theorem xo_63 {y z : Int32} {t : List jx_E} (hb : jx_at bl a = t) (kt : z < y → jx_Ex d bl t ls st h Q) (kf : ¬ (z < y) → jx_Ex d bl r ls st h Q) : jx_Ex d bl ((pc, 63, (a, b, c, d0), x, L) :: r) ls (.int y :: .int z :: st) h Q := by
  subst hb
  by_cases hc : z < y
  · exact jx_Ex.next (by simp only [jx_s, if_pos hc]; rfl) (kt hc)
  · exact jx_Ex.next (by simp only [jx_s, if_neg hc]; rfl) (kf hc)
theorem xo_58 {z : Int32} {t : List jx_E} (hb : jx_at bl a = t) (kt : 0 ≤ z → jx_Ex d bl t ls st h Q) (kf : ¬ (0 ≤ z) → jx_Ex d bl r ls st h Q) : jx_Ex d bl ((pc, 58, (a, b, c, d0), x, L) :: r) ls (.int z :: st) h Q := by
  subst hb
  by_cases hc : 0 ≤ z
  · exact jx_Ex.next (by simp only [jx_s, if_pos hc]; rfl) (kt hc)
  · exact jx_Ex.next (by simp only [jx_s, if_neg hc]; rfl) (kf hc)
theorem xo_64 {y z : Int32} {t : List jx_E} (hb : jx_at bl a = t) (kt : y ≤ z → jx_Ex d bl t ls st h Q) (kf : ¬ (y ≤ z) → jx_Ex d bl r ls st h Q) : jx_Ex d bl ((pc, 64, (a, b, c, d0), x, L) :: r) ls (.int y :: .int z :: st) h Q := by
  subst hb
  by_cases hc : y ≤ z
  · exact jx_Ex.next (by simp only [jx_s, if_pos hc]; rfl) (kt hc)
  · exact jx_Ex.next (by simp only [jx_s, if_neg hc]; rfl) (kf hc)
theorem xo_59 {z : Int32} {t : List jx_E} (hb : jx_at bl a = t) (kt : 0 < z → jx_Ex d bl t ls st h Q) (kf : ¬ (0 < z) → jx_Ex d bl r ls st h Q) : jx_Ex d bl ((pc, 59, (a, b, c, d0), x, L) :: r) ls (.int z :: st) h Q := by
  subst hb
  by_cases hc : 0 < z
  · exact jx_Ex.next (by simp only [jx_s, if_pos hc]; rfl) (kt hc)
  · exact jx_Ex.next (by simp only [jx_s, if_neg hc]; rfl) (kf hc)
theorem xo_65 {y z : Int32} {t : List jx_E} (hb : jx_at bl a = t) (kt : y < z → jx_Ex d bl t ls st h Q) (kf : ¬ (y < z) → jx_Ex d bl r ls st h Q) : jx_Ex d bl ((pc, 65, (a, b, c, d0), x, L) :: r) ls (.int y :: .int z :: st) h Q := by
  subst hb
  by_cases hc : y < z
  · exact jx_Ex.next (by simp only [jx_s, if_pos hc]; rfl) (kt hc)
  · exact jx_Ex.next (by simp only [jx_s, if_neg hc]; rfl) (kf hc)
theorem xo_60 {z : Int32} {t : List jx_E} (hb : jx_at bl a = t) (kt : z ≤ 0 → jx_Ex d bl t ls st h Q) (kf : ¬ (z ≤ 0) → jx_Ex d bl r ls st h Q) : jx_Ex d bl ((pc, 60, (a, b, c, d0), x, L) :: r) ls (.int z :: st) h Q := by
  subst hb
  by_cases hc : z ≤ 0
  · exact jx_Ex.next (by simp only [jx_s, if_pos hc]; rfl) (kt hc)
  · exact jx_Ex.next (by simp only [jx_s, if_neg hc]; rfl) (kf hc)
theorem xo_66 {y z : Int32} {t : List jx_E} (hb : jx_at bl a = t) (kt : z ≤ y → jx_Ex d bl t ls st h Q) (kf : ¬ (z ≤ y) → jx_Ex d bl r ls st h Q) : jx_Ex d bl ((pc, 66, (a, b, c, d0), x, L) :: r) ls (.int y :: .int z :: st) h Q := by
  subst hb
  by_cases hc : z ≤ y
  · exact jx_Ex.next (by simp only [jx_s, if_pos hc]; rfl) (kt hc)
  · exact jx_Ex.next (by simp only [jx_s, if_neg hc]; rfl) (kf hc)
theorem xo_67 {z : Int32} (k : jx_Ex d bl (jx_at bl (jx_lk L z a)) ls st h Q) : jx_Ex d bl ((pc, 67, (a, b, c, d0), x, L) :: r) ls (.int z :: st) h Q := jx_Ex.next (rfl) k
theorem xo_68 {z : Int32} (k : jx_Ex d bl (jx_at bl (jx_lk L z a)) ls st h Q) : jx_Ex d bl ((pc, 68, (a, b, c, d0), x, L) :: r) ls (.int z :: st) h Q := jx_Ex.next (rfl) k
theorem xo_swc {z v : Int32} {t : Nat} {tb : List jx_E} (hb : jx_at bl t = tb) (kt : z = v → jx_Ex d bl tb ls st h Q) (kf : ¬ z = v → jx_Ex d bl (jx_at bl (jx_lk L z a)) ls st h Q) : jx_Ex d bl (jx_at bl (jx_lk ((v, t) :: L) z a)) ls st h Q := by
  subst hb
  by_cases hc : z = v
  · simp only [jx_lk, if_pos hc]; exact kt hc
  · simp only [jx_lk, if_neg hc]; exact kf hc
theorem xo_sws {z v : Int32} (hn : L.all (fun q => decide (q.1 ≠ v)) = true) (k : jx_Ex d bl (jx_at bl (jx_lk L z a)) ls st h Q) : jx_Ex d bl (jx_at bl (jx_lk ((v, a) :: L) z a)) ls st h Q := by
  by_cases hc : z = v
  · subst hc
    have e : ∀ (L : List (Int32 × Nat)), L.all (fun q => decide (q.1 ≠ z)) = true → jx_lk L z a = a := by
      intro L
      induction L with
      | nil => intro _; rfl
      | cons q L ih =>
        intro hq
        simp only [List.all_cons, Bool.and_eq_true, decide_eq_true_eq] at hq
        simp only [jx_lk, if_neg (Ne.symm hq.1)]
        exact ih hq.2
    rw [e L hn] at k
    simp only [jx_lk, if_pos]
    exact k
  · simp only [jx_lk, if_neg hc]; exact k
theorem xo_swn {z : Int32} {tb : List jx_E} (hb : jx_at bl a = tb) (k : jx_Ex d bl tb ls st h Q) : jx_Ex d bl (jx_at bl (jx_lk [] z a)) ls st h Q := by
  subst hb; exact k
theorem xo_69 {z : Int32} (hq : Q (some (.int z)) h) : jx_Ex d bl ((pc, 69, (a, b, c, d0), x, L) :: r) ls [.int z] h Q := jx_Ex.ret rfl hq
theorem xo_70 {z : Int32} (hz : z = 0 ∨ z = 1) (hq : Q (some (.int z)) h) : jx_Ex d bl ((pc, 70, (a, b, c, d0), x, L) :: r) ls [.int z] h Q := jx_Ex.ret (by simp only [jx_s, if_pos hz]) hq
theorem xo_71 (hq : Q none h) : jx_Ex d bl ((pc, 71, (a, b, c, d0), x, L) :: r) ls [] h Q := jx_Ex.ret rfl hq
theorem xo_49 {o : Nat} {as st' : List Value} (ht : (st.take b).reverse = .ref o :: as) (hd : st.drop b = st') (ho : h.1[o]? = some (10 + c, jx_N c)) (hl : as.length + 1 = b) (h8 : jx_c8 st') (k : jx_Sp d a (.ref o :: as) h (fun v h1 => jx_Ex (d + 1) bl r ls (v.toList ++ st') h1 Q)) : jx_Ex (d + 1) bl ((pc, 49, (a, b, c, d0), x, L) :: r) ls st h Q := by
  subst hd
  exact jx_Ex.call (by simp only [jx_s, ht]; rw [if_pos ⟨ho, hl, h8⟩]) k
theorem xo_50 {as st' : List Value} (ht : (st.take b).reverse = as) (hd : st.drop b = st') (hl : (st.take b).length = b) (h8 : jx_c8 st') (k : jx_Sp d a as h (fun v h1 => jx_Ex (d + 1) bl r ls (v.toList ++ st') h1 Q)) : jx_Ex (d + 1) bl ((pc, 50, (a, b, c, d0), x, L) :: r) ls st h Q := by
  subst hd ht
  exact jx_Ex.call (by simp only [jx_s]; rw [if_pos ⟨hl, h8⟩]) k
/-! rows and fields of a side -/
theorem jh_g {i : Nat} (hb : 64 * S.1 ≤ i ∧ i < 64 * S.2.1) : (jh S σ).2.2.1 i = σ.1 i := if_pos hb
theorem jh_a {o : Nat} (hb : S.1 ≤ o ∧ o < S.2.1) : (jh S σ).2.2.2 o = σ.2 o := by funext j; exact if_pos hb
theorem jh_gs {i : Nat} {v : Int32} (hb : 64 * S.1 ≤ i ∧ i < 64 * S.2.1) : ((jh S σ).1, (jh S σ).2.1, jx_up (jh S σ).2.2.1 i v, (jh S σ).2.2.2) = jh S (gs σ i v) := by
  have : jx_up (jh S σ).2.2.1 i v = (jh S (gs σ i v)).2.2.1 := by
    funext j
    by_cases hj : j = i
    · subst hj; simp [jx_up, jh, gs, hb]
    · simp [jx_up, jh, gs, hj]
  rw [this]
  rfl
theorem jh_gA {o i : Nat} {v : Int32} (hb : S.1 ≤ o ∧ o < S.2.1) : ((jh S σ).1, (jh S σ).2.1, (jh S σ).2.2.1, jx_up2 (jh S σ).2.2.2 o i v) = jh S (gA σ o i v) := by
  have : jx_up2 (jh S σ).2.2.2 o i v = (jh S (gA σ o i v)).2.2.2 := by
    funext p j
    by_cases hj : p = o ∧ j = i
    · obtain ⟨rfl, rfl⟩ := hj; simp [jx_up2, jh, gA, hb]
    · simp [jx_up2, jh, gA, hj]
  rw [this]
  rfl
theorem xc_ly {o : Nat} {q : Nat × Nat} (hS : jCok S) (hl : jLAY[o]? = some q) : (jh S σ).1[o]? = some q := by
  have ho : o < 95 := by
    have := (List.getElem?_eq_some_iff.mp hl).1
    simpa [jLAY] using this
  exact (hS.2.2.1 o ho).trans hl
theorem xc_32 {o i : Nat} {v : Int32} (hS : jCok S) (hl : jLAY[o]? = some (10 + a, jx_N a)) (hi : 64 * o + b = i) (hb : 0 ≤ i ∧ i < 4160) (hv : σ.1 i = v) (k : jx_Ex d bl r ls (.int v :: st) (jh S σ) Q) : jx_Ex d bl ((pc, 32, (a, b, c, d0), x, L) :: r) ls (.ref o :: st) (jh S σ) Q := by
  subst hi hv
  exact jx_Ex.next (by simp only [jx_s]; rw [if_pos (xc_ly hS hl), jh_g ⟨by rw [hS.1]; omega, by rw [hS.2.1]; omega⟩]; rfl) k
theorem xc_33 {o i q : Nat} (hS : jCok S) (hl : jLAY[o]? = some (10 + a, jx_N a)) (hi : 64 * o + b = i) (hp : S.2.2.2.1 i = .ref q) (k : jx_Ex d bl r ls (.ref q :: st) (jh S σ) Q) : jx_Ex d bl ((pc, 33, (a, b, c, d0), x, L) :: r) ls (.ref o :: st) (jh S σ) Q := by
  subst hi
  exact jx_Ex.next (by simp only [jx_s]; rw [if_pos (xc_ly hS hl)]; show some (Sum.inl (r, ls, S.2.2.2.1 (64 * o + b) :: st, jh S σ)) = _; rw [hp]) k
theorem xc_34 {o i : Nat} {v : Int32} (hS : jCok S) (hl : jLAY[o]? = some (10 + a, jx_N a)) (hi : 64 * o + b = i) (hb : 0 ≤ i ∧ i < 4160) (k : jx_Ex d bl r ls st (jh S (gs σ i v)) Q) : jx_Ex d bl ((pc, 34, (a, b, c, d0), x, L) :: r) ls (.int v :: .ref o :: st) (jh S σ) Q := by
  subst hi
  exact jx_Ex.next (by simp only [jx_s]; rw [if_pos (xc_ly hS hl), jh_gs ⟨by rw [hS.1]; omega, by rw [hS.2.1]; omega⟩]; rfl) k
theorem xc_35 {o i : Nat} {v : Int32} (hS : jCok S) (hl : jLAY[o]? = some (10 + a, jx_N a)) (hi : 64 * o + b = i) (hb : 0 ≤ i ∧ i < 4160) (hz : v = 0 ∨ v = 1) (k : jx_Ex d bl r ls st (jh S (gs σ i v)) Q) : jx_Ex d bl ((pc, 35, (a, b, c, d0), x, L) :: r) ls (.int v :: .ref o :: st) (jh S σ) Q := by
  subst hi
  exact jx_Ex.next (by simp only [jx_s]; rw [if_pos ⟨xc_ly hS hl, hz⟩, jh_gs ⟨by rw [hS.1]; omega, by rw [hS.2.1]; omega⟩]; rfl) k
theorem xc_38 {o n j : Nat} {i v : Int32} (hS : jCok S) (hl : jLAY[o]? = some (0, n)) (hb : 0 ≤ o ∧ o < 65) (hin : jx_in i n) (hj : i.toNatClampNeg = j) (hv : σ.2 o j = v) (k : jx_Ex d bl r ls (.int v :: st) (jh S σ) Q) : jx_Ex d bl ((pc, 38, (a, b, c, d0), x, L) :: r) ls (.int i :: .ref o :: st) (jh S σ) Q := by
  subst hj hv
  exact jx_Ex.next (by simp only [jx_s, xc_ly (σ := σ) hS hl]; rw [if_pos hin, jh_a ⟨by rw [hS.1]; omega, by rw [hS.2.1]; omega⟩]; rfl) k
theorem xc_39 {o n j : Nat} {i v : Int32} (hS : jCok S) (hl : jLAY[o]? = some (1, n) ∨ jLAY[o]? = some (2, n)) (hb : 0 ≤ o ∧ o < 65) (hin : jx_in i n) (hj : i.toNatClampNeg = j) (hv : σ.2 o j = v) (k : jx_Ex d bl r ls (.int v :: st) (jh S σ) Q) : jx_Ex d bl ((pc, 39, (a, b, c, d0), x, L) :: r) ls (.int i :: .ref o :: st) (jh S σ) Q := by
  subst hj hv
  rcases hl with hl | hl <;> exact jx_Ex.next (by simp only [jx_s, xc_ly (σ := σ) hS hl]; rw [if_pos hin, jh_a ⟨by rw [hS.1]; omega, by rw [hS.2.1]; omega⟩]; rfl) k
theorem xc_41 {o n j : Nat} {i v : Int32} (hS : jCok S) (hl : jLAY[o]? = some (0, n)) (hb : 0 ≤ o ∧ o < 65) (hin : jx_in i n) (hj : i.toNatClampNeg = j) (k : jx_Ex d bl r ls st (jh S (gA σ o j v)) Q) : jx_Ex d bl ((pc, 41, (a, b, c, d0), x, L) :: r) ls (.int v :: .int i :: .ref o :: st) (jh S σ) Q := by
  subst hj
  exact jx_Ex.next (by simp only [jx_s, xc_ly (σ := σ) hS hl]; rw [if_pos hin]; rw [jh_gA ⟨by rw [hS.1]; omega, by rw [hS.2.1]; omega⟩]; rfl) k
theorem xc_42b {o n j : Nat} {i v : Int32} (hS : jCok S) (hl : jLAY[o]? = some (1, n)) (hb : 0 ≤ o ∧ o < 65) (hin : jx_in i n) (hj : i.toNatClampNeg = j) (k : jx_Ex d bl r ls st (jh S (gA σ o j v.toInt8.toInt32)) Q) : jx_Ex d bl ((pc, 42, (a, b, c, d0), x, L) :: r) ls (.int v :: .int i :: .ref o :: st) (jh S σ) Q := by
  subst hj
  exact jx_Ex.next (by simp only [jx_s, xc_ly (σ := σ) hS hl]; rw [if_pos hin]; rw [jh_gA ⟨by rw [hS.1]; omega, by rw [hS.2.1]; omega⟩]; rfl) k
theorem xc_42z {o n j : Nat} {i v : Int32} (hS : jCok S) (hl : jLAY[o]? = some (2, n)) (hb : 0 ≤ o ∧ o < 65) (hin : jx_in i n) (hj : i.toNatClampNeg = j) (k : jx_Ex d bl r ls st (jh S (gA σ o j (v &&& 1))) Q) : jx_Ex d bl ((pc, 42, (a, b, c, d0), x, L) :: r) ls (.int v :: .int i :: .ref o :: st) (jh S σ) Q := by
  subst hj
  exact jx_Ex.next (by simp only [jx_s, xc_ly (σ := σ) hS hl]; rw [if_pos hin]; rw [jh_gA ⟨by rw [hS.1]; omega, by rw [hS.2.1]; omega⟩]; rfl) k
theorem xc_44 {o n q j : Nat} {i : Int32} (hS : jCok S) (hl : jLAY[o]? = some (4, n)) (hn : n ≤ 64) (hin : jx_in i n) (hj : 64 * o + i.toNatClampNeg = j) (hp : S.2.2.2.1 j = .ref q) (k : jx_Ex d bl r ls (.ref q :: st) (jh S σ) Q) : jx_Ex d bl ((pc, 44, (a, b, c, d0), x, L) :: r) ls (.int i :: .ref o :: st) (jh S σ) Q := by
  subst hj
  have hp2 : (jh S σ).2.1 (64 * o + i.toNatClampNeg) = .ref q := hp
  exact jx_Ex.next (by simp only [jx_s, xc_ly (σ := σ) hS hl]; rw [if_pos ⟨hin, hn⟩]; simp only [hp2]; rfl) k
theorem xc_53 {o q n0 n1 sp' dp' n' : Nat} {sp dp n : Int32} (hS : jCok S) (hl : jLAY[o]? = some (0, n0)) (hl' : jLAY[q]? = some (0, n1)) (hbo : 0 ≤ o ∧ o < 65) (hb : 0 ≤ q ∧ q < 65) (h1 : ¬ sp < 0 ∧ ¬ dp < 0 ∧ ¬ n < 0) (e1 : sp.toNatClampNeg = sp') (e2 : dp.toNatClampNeg = dp') (e3 : n.toNatClampNeg = n') (h4 : sp' + n' ≤ n0) (h5 : dp' + n' ≤ n1) (h8 : jx_c8 st) (k : jx_Ex d bl r ls st (jh S (gC σ o q sp' dp' n')) Q) : jx_Ex d bl ((pc, 53, (a, b, c, d0), x, L) :: r) ls (.int n :: .int dp :: .ref q :: .int sp :: .ref o :: st) (jh S σ) Q := by
  subst e1 e2 e3
  have hh : ((jh S σ).1, (jh S σ).2.1, (jh S σ).2.2.1, fun z => if z = q then va_cpy ((jh S σ).2.2.2 o) ((jh S σ).2.2.2 q) sp.toNatClampNeg dp.toNatClampNeg n.toNatClampNeg else (jh S σ).2.2.2 z) = jh S (gC σ o q sp.toNatClampNeg dp.toNatClampNeg n.toNatClampNeg) := by
    have e0 : (jh S σ).2.2.2 o = σ.2 o := jh_a ⟨by rw [hS.1]; omega, by rw [hS.2.1]; omega⟩
    have e1 : (jh S σ).2.2.2 q = σ.2 q := jh_a ⟨by rw [hS.1]; omega, by rw [hS.2.1]; omega⟩
    have : (fun z => if z = q then va_cpy ((jh S σ).2.2.2 o) ((jh S σ).2.2.2 q) sp.toNatClampNeg dp.toNatClampNeg n.toNatClampNeg else (jh S σ).2.2.2 z) = (jh S (gC σ o q sp.toNatClampNeg dp.toNatClampNeg n.toNatClampNeg)).2.2.2 := by
      funext z j
      by_cases hz : z = q
      · subst hz
        rw [e0, e1]
        have hbz : S.1 ≤ z ∧ z < S.2.1 := ⟨by rw [hS.1]; omega, by rw [hS.2.1]; omega⟩
        simp [jh, gC, hbz]
      · simp [jh, gC, hz]
    rw [this]
    rfl
  exact jx_Ex.next (by simp only [jx_s, xc_ly (σ := σ) hS hl, xc_ly (σ := σ) hS hl']; rw [if_pos ⟨h1.1, h1.2.1, h1.2.2, h4, h5, h8⟩]; rw [hh]; rfl) k
theorem xc_P {i q : Nat} (hS : jCok S) (h : jPtab.any (fun p => decide (p = (i, q))) = true) : S.2.2.2.1 i = .ref q := by
  obtain ⟨p, hp, he⟩ := List.any_eq_true.mp h
  have := hS.2.2.2 p hp
  rw [of_decide_eq_true he] at this
  exact this
theorem xm_ly {o : Nat} {q : Nat × Nat} (hS : jMok S) (hl : jLAY[o]? = some q) : (jh S σ).1[o]? = some q := by
  have ho : o < 95 := by
    have := (List.getElem?_eq_some_iff.mp hl).1
    simpa [jLAY] using this
  exact (hS.2.2.1 o ho).trans hl
theorem xm_32 {o i : Nat} {v : Int32} (hS : jMok S) (hl : jLAY[o]? = some (10 + a, jx_N a)) (hi : 64 * o + b = i) (hb : 4160 ≤ i ∧ i < 6080) (hv : σ.1 i = v) (k : jx_Ex d bl r ls (.int v :: st) (jh S σ) Q) : jx_Ex d bl ((pc, 32, (a, b, c, d0), x, L) :: r) ls (.ref o :: st) (jh S σ) Q := by
  subst hi hv
  exact jx_Ex.next (by simp only [jx_s]; rw [if_pos (xm_ly hS hl), jh_g ⟨by rw [hS.1]; omega, by rw [hS.2.1]; omega⟩]; rfl) k
theorem xm_33 {o i q : Nat} (hS : jMok S) (hl : jLAY[o]? = some (10 + a, jx_N a)) (hi : 64 * o + b = i) (hp : S.2.2.2.1 i = .ref q) (k : jx_Ex d bl r ls (.ref q :: st) (jh S σ) Q) : jx_Ex d bl ((pc, 33, (a, b, c, d0), x, L) :: r) ls (.ref o :: st) (jh S σ) Q := by
  subst hi
  exact jx_Ex.next (by simp only [jx_s]; rw [if_pos (xm_ly hS hl)]; show some (Sum.inl (r, ls, S.2.2.2.1 (64 * o + b) :: st, jh S σ)) = _; rw [hp]) k
theorem xm_34 {o i : Nat} {v : Int32} (hS : jMok S) (hl : jLAY[o]? = some (10 + a, jx_N a)) (hi : 64 * o + b = i) (hb : 4160 ≤ i ∧ i < 6080) (k : jx_Ex d bl r ls st (jh S (gs σ i v)) Q) : jx_Ex d bl ((pc, 34, (a, b, c, d0), x, L) :: r) ls (.int v :: .ref o :: st) (jh S σ) Q := by
  subst hi
  exact jx_Ex.next (by simp only [jx_s]; rw [if_pos (xm_ly hS hl), jh_gs ⟨by rw [hS.1]; omega, by rw [hS.2.1]; omega⟩]; rfl) k
theorem xm_35 {o i : Nat} {v : Int32} (hS : jMok S) (hl : jLAY[o]? = some (10 + a, jx_N a)) (hi : 64 * o + b = i) (hb : 4160 ≤ i ∧ i < 6080) (hz : v = 0 ∨ v = 1) (k : jx_Ex d bl r ls st (jh S (gs σ i v)) Q) : jx_Ex d bl ((pc, 35, (a, b, c, d0), x, L) :: r) ls (.int v :: .ref o :: st) (jh S σ) Q := by
  subst hi
  exact jx_Ex.next (by simp only [jx_s]; rw [if_pos ⟨xm_ly hS hl, hz⟩, jh_gs ⟨by rw [hS.1]; omega, by rw [hS.2.1]; omega⟩]; rfl) k
theorem xm_38 {o n j : Nat} {i v : Int32} (hS : jMok S) (hl : jLAY[o]? = some (0, n)) (hb : 65 ≤ o ∧ o < 95) (hin : jx_in i n) (hj : i.toNatClampNeg = j) (hv : σ.2 o j = v) (k : jx_Ex d bl r ls (.int v :: st) (jh S σ) Q) : jx_Ex d bl ((pc, 38, (a, b, c, d0), x, L) :: r) ls (.int i :: .ref o :: st) (jh S σ) Q := by
  subst hj hv
  exact jx_Ex.next (by simp only [jx_s, xm_ly (σ := σ) hS hl]; rw [if_pos hin, jh_a ⟨by rw [hS.1]; omega, by rw [hS.2.1]; omega⟩]; rfl) k
theorem xm_39 {o n j : Nat} {i v : Int32} (hS : jMok S) (hl : jLAY[o]? = some (1, n) ∨ jLAY[o]? = some (2, n)) (hb : 65 ≤ o ∧ o < 95) (hin : jx_in i n) (hj : i.toNatClampNeg = j) (hv : σ.2 o j = v) (k : jx_Ex d bl r ls (.int v :: st) (jh S σ) Q) : jx_Ex d bl ((pc, 39, (a, b, c, d0), x, L) :: r) ls (.int i :: .ref o :: st) (jh S σ) Q := by
  subst hj hv
  rcases hl with hl | hl <;> exact jx_Ex.next (by simp only [jx_s, xm_ly (σ := σ) hS hl]; rw [if_pos hin, jh_a ⟨by rw [hS.1]; omega, by rw [hS.2.1]; omega⟩]; rfl) k
theorem xm_41 {o n j : Nat} {i v : Int32} (hS : jMok S) (hl : jLAY[o]? = some (0, n)) (hb : 65 ≤ o ∧ o < 95) (hin : jx_in i n) (hj : i.toNatClampNeg = j) (k : jx_Ex d bl r ls st (jh S (gA σ o j v)) Q) : jx_Ex d bl ((pc, 41, (a, b, c, d0), x, L) :: r) ls (.int v :: .int i :: .ref o :: st) (jh S σ) Q := by
  subst hj
  exact jx_Ex.next (by simp only [jx_s, xm_ly (σ := σ) hS hl]; rw [if_pos hin]; rw [jh_gA ⟨by rw [hS.1]; omega, by rw [hS.2.1]; omega⟩]; rfl) k
theorem xm_42b {o n j : Nat} {i v : Int32} (hS : jMok S) (hl : jLAY[o]? = some (1, n)) (hb : 65 ≤ o ∧ o < 95) (hin : jx_in i n) (hj : i.toNatClampNeg = j) (k : jx_Ex d bl r ls st (jh S (gA σ o j v.toInt8.toInt32)) Q) : jx_Ex d bl ((pc, 42, (a, b, c, d0), x, L) :: r) ls (.int v :: .int i :: .ref o :: st) (jh S σ) Q := by
  subst hj
  exact jx_Ex.next (by simp only [jx_s, xm_ly (σ := σ) hS hl]; rw [if_pos hin]; rw [jh_gA ⟨by rw [hS.1]; omega, by rw [hS.2.1]; omega⟩]; rfl) k
theorem xm_42z {o n j : Nat} {i v : Int32} (hS : jMok S) (hl : jLAY[o]? = some (2, n)) (hb : 65 ≤ o ∧ o < 95) (hin : jx_in i n) (hj : i.toNatClampNeg = j) (k : jx_Ex d bl r ls st (jh S (gA σ o j (v &&& 1))) Q) : jx_Ex d bl ((pc, 42, (a, b, c, d0), x, L) :: r) ls (.int v :: .int i :: .ref o :: st) (jh S σ) Q := by
  subst hj
  exact jx_Ex.next (by simp only [jx_s, xm_ly (σ := σ) hS hl]; rw [if_pos hin]; rw [jh_gA ⟨by rw [hS.1]; omega, by rw [hS.2.1]; omega⟩]; rfl) k
theorem xm_44 {o n q j : Nat} {i : Int32} (hS : jMok S) (hl : jLAY[o]? = some (4, n)) (hn : n ≤ 64) (hin : jx_in i n) (hj : 64 * o + i.toNatClampNeg = j) (hp : S.2.2.2.1 j = .ref q) (k : jx_Ex d bl r ls (.ref q :: st) (jh S σ) Q) : jx_Ex d bl ((pc, 44, (a, b, c, d0), x, L) :: r) ls (.int i :: .ref o :: st) (jh S σ) Q := by
  subst hj
  have hp2 : (jh S σ).2.1 (64 * o + i.toNatClampNeg) = .ref q := hp
  exact jx_Ex.next (by simp only [jx_s, xm_ly (σ := σ) hS hl]; rw [if_pos ⟨hin, hn⟩]; simp only [hp2]; rfl) k
theorem xm_53 {o q n0 n1 sp' dp' n' : Nat} {sp dp n : Int32} (hS : jMok S) (hl : jLAY[o]? = some (0, n0)) (hl' : jLAY[q]? = some (0, n1)) (hbo : 65 ≤ o ∧ o < 95) (hb : 65 ≤ q ∧ q < 95) (h1 : ¬ sp < 0 ∧ ¬ dp < 0 ∧ ¬ n < 0) (e1 : sp.toNatClampNeg = sp') (e2 : dp.toNatClampNeg = dp') (e3 : n.toNatClampNeg = n') (h4 : sp' + n' ≤ n0) (h5 : dp' + n' ≤ n1) (h8 : jx_c8 st) (k : jx_Ex d bl r ls st (jh S (gC σ o q sp' dp' n')) Q) : jx_Ex d bl ((pc, 53, (a, b, c, d0), x, L) :: r) ls (.int n :: .int dp :: .ref q :: .int sp :: .ref o :: st) (jh S σ) Q := by
  subst e1 e2 e3
  have hh : ((jh S σ).1, (jh S σ).2.1, (jh S σ).2.2.1, fun z => if z = q then va_cpy ((jh S σ).2.2.2 o) ((jh S σ).2.2.2 q) sp.toNatClampNeg dp.toNatClampNeg n.toNatClampNeg else (jh S σ).2.2.2 z) = jh S (gC σ o q sp.toNatClampNeg dp.toNatClampNeg n.toNatClampNeg) := by
    have e0 : (jh S σ).2.2.2 o = σ.2 o := jh_a ⟨by rw [hS.1]; omega, by rw [hS.2.1]; omega⟩
    have e1 : (jh S σ).2.2.2 q = σ.2 q := jh_a ⟨by rw [hS.1]; omega, by rw [hS.2.1]; omega⟩
    have : (fun z => if z = q then va_cpy ((jh S σ).2.2.2 o) ((jh S σ).2.2.2 q) sp.toNatClampNeg dp.toNatClampNeg n.toNatClampNeg else (jh S σ).2.2.2 z) = (jh S (gC σ o q sp.toNatClampNeg dp.toNatClampNeg n.toNatClampNeg)).2.2.2 := by
      funext z j
      by_cases hz : z = q
      · subst hz
        rw [e0, e1]
        have hbz : S.1 ≤ z ∧ z < S.2.1 := ⟨by rw [hS.1]; omega, by rw [hS.2.1]; omega⟩
        simp [jh, gC, hbz]
      · simp [jh, gC, hz]
    rw [this]
    rfl
  exact jx_Ex.next (by simp only [jx_s, xm_ly (σ := σ) hS hl, xm_ly (σ := σ) hS hl']; rw [if_pos ⟨h1.1, h1.2.1, h1.2.2, h4, h5, h8⟩]; rw [hh]; rfl) k
theorem xm_P {i q : Nat} (hS : jMok S) (h : jPtab.any (fun p => decide (p = (i, q))) = true) : S.2.2.2.1 i = .ref q := by
  obtain ⟨p, hp, he⟩ := List.any_eq_true.mp h
  have := hS.2.2.2 p hp
  rw [of_decide_eq_true he] at this
  exact this
theorem xm_36 {o i q : Nat} {w : Value} (hS : jMok S) (hl : jLAY[o]? = some (10 + a, jx_N a)) (hi : 64 * o + b = i) (he : i = 4173) (k : jx_Ex d bl r ls st (jh (jSrd S (.ref q)) σ) Q) : jx_Ex d bl ((pc, 36, (a, b, c, d0), x, L) :: r) ls (.ref q :: .ref o :: st) (jh (jSrd S w) σ) Q := by
  have hS1 := jSrd_ok hS w
  refine jx_Ex.next ?_ k
  simp only [jx_s]
  rw [if_pos (xm_ly hS1 hl), hi, he, ← jSrd_twice S w (.ref q)]
  rfl
end JXR
def jw {α : Type} (o : Option α) (Q : α → Prop) : Prop := ∃ a, o = some a ∧ Q a
theorem jw_some {α : Type} {a : α} {Q : α → Prop} (h : jw (some a) Q) : Q a := by
  obtain ⟨b, hb, hq⟩ := h
  cases hb
  exact hq
theorem jw_none {α : Type} {Q : α → Prop} {P : Prop} (h : jw (none : Option α) Q) : P := by
  obtain ⟨b, hb, hq⟩ := h
  cases hb
theorem jw_bind {α β : Type} {o : Option α} {f : α → Option β} {Q : β → Prop} (h : jw (o.bind f) Q) : jw o (fun a => jw (f a) Q) := by
  obtain ⟨b, hb, hq⟩ := h
  cases o with
  | none => cases hb
  | some a => exact ⟨a, rfl, b, hb, hq⟩
theorem jw_mono {α : Type} {o : Option α} {P Q : α → Prop} (h : jw o P) (k : ∀ a, P a → Q a) : jw o Q := by
  obtain ⟨b, hb, hq⟩ := h
  exact ⟨b, hb, k b hq⟩
theorem jw_pos {α : Type} {c : Prop} {i : Decidable c} {a b : Option α} {Q : α → Prop} (hc : c) (h : jw (@ite _ c i a b) Q) : jw a Q := by rw [if_pos hc] at h; exact h
theorem jw_neg {α : Type} {c : Prop} {i : Decidable c} {a b : Option α} {Q : α → Prop} (hc : ¬ c) (h : jw (@ite _ c i a b) Q) : jw b Q := by rw [if_neg hc] at h; exact h
theorem jw_chk {α : Type} {c : Prop} {i : Decidable c} {a : Option α} {Q : α → Prop} (h : jw (@ite _ c i a none) Q) : c ∧ jw a Q := by
  by_cases hc : c
  · exact ⟨hc, jw_pos hc h⟩
  · exact jw_none (jw_neg hc h)
theorem jw_chn {α : Type} {c : Prop} {i : Decidable c} {a : Option α} {Q : α → Prop} (h : jw (@ite _ c i none a) Q) : ¬ c ∧ jw a Q := by
  by_cases hc : c
  · exact jw_none (jw_pos hc h)
  · exact ⟨hc, jw_neg hc h⟩
