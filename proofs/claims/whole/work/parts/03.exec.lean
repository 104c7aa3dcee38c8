/-! ===== a small machine over plain numbers: what the claim's methods do, as a function =====
a cell's number is its place in the row 'lay' of kinds; fields of cell o are at 64*o+k (numbers in G, references in P); rows in A -/
abbrev jx_E : Type := Nat × Nat × (Nat × Nat × Nat × Nat) × Int32 × List (Int32 × Nat)
abbrev jx_H : Type := List (Nat × Nat) × (Nat → Value) × (Nat → Int32) × (Nat → Nat → Int32)
abbrev jx_B : Type := List (Nat × List jx_E)
abbrev jx_C : Type := List jx_E × List Value × List Value × jx_H
abbrev jx_K : Type := Nat × List Value × List jx_E × List Value × List Value
abbrev jx_R : Type := jx_C ⊕ (jx_K ⊕ Option Value)
/-- name, bytes, locals, what it returns, kind (0 virtual, 1 constructor, 2 static), arguments (this counted), class, blocks -/
abbrev jx_M : Type := MethodName × ByteArray × Nat × Option FieldType × Nat × Nat × Nat × jx_B
def jx_up {α : Type} (f : Nat → α) (k : Nat) (x : α) : Nat → α := fun j => if j = k then x else f j
def jx_up2 {α : Type} (f : Nat → Nat → α) (o k : Nat) (x : α) : Nat → Nat → α := fun p j => if p = o ∧ j = k then x else f p j
def jx_at : jx_B → Nat → List jx_E
  | [], _ => []
  | b :: r, t => if b.1 = t then b.2 else jx_at r t
abbrev jx_in (i : Int32) (n : Nat) : Prop := ¬ (i < 0 ∨ n ≤ i.toNatClampNeg)
abbrev jx_c8 (st : List Value) : Prop := (st.map fun v => v.category).sum ≤ 8
def jx_max (z y : Int32) : Int32 := if z < y then y else z
def jx_min (z y : Int32) : Int32 := if y < z then y else z
/-- how many fields the classes have -/
def jx_N (c : Nat) : Nat := (jx_cl.getD c ("", fun _ => ("", "", "", false), 0)).2.2
def jx_n (r : List jx_E) (ls st : List Value) (h : jx_H) : Option jx_R := some (.inl (r, ls, st, h))
def jx_lk : List (Int32 × Nat) → Int32 → Nat → Nat
  | [], _, d => d
  | q :: r, x, d => if x = q.1 then q.2 else jx_lk r x d
def jx_s (bl : jx_B) (e : jx_E) (r : List jx_E) (ls st : List Value) (h : jx_H) : Option jx_R :=
  match e with
  | (_, op, (a, b, c, d), x, L) =>
  match op with
  | 0 => match ls[a]? with
    | some (.int v) => jx_n r ls (.int v :: st) h
    | _ => none
  | 1 => match ls[a]? with
    | some (.int v) => jx_n r ls (.int v :: st) h
    | _ => none
  | 2 => match ls[a]? with
    | some (.ref v) => jx_n r ls (.ref v :: st) h
    | _ => none
  | 3 => match ls[a]? with
    | some (.ref v) => jx_n r ls (.ref v :: st) h
    | _ => none
  | 4 => match st with
    | .int v :: s => jx_n r (ls.set a (.int v)) s h
    | _ => none
  | 5 => match st with
    | .int v :: s => jx_n r (ls.set a (.int v)) s h
    | _ => none
  | 6 => match st with
    | .ref v :: s => jx_n r (ls.set a (.ref v)) s h
    | _ => none
  | 7 => match st with
    | .ref v :: s => jx_n r (ls.set a (.ref v)) s h
    | _ => none
  | 8 => jx_n r ls (.int x :: st) h
  | 9 => jx_n r ls (.int x :: st) h
  | 10 => jx_n r ls (.int x :: st) h
  | 11 => jx_n r ls (.int x :: st) h
  | 12 => jx_n r ls (.int x :: st) h
  | 13 => match ls[a]? with
    | some (.int v) => jx_n r (ls.set a (.int (v + x))) st h
    | _ => none
  | 14 => match st with
    | .int y :: .int z :: s => jx_n r ls (.int (z + y) :: s) h
    | _ => none
  | 15 => match st with
    | .int y :: .int z :: s => jx_n r ls (.int (z - y) :: s) h
    | _ => none
  | 16 => match st with
    | .int y :: .int z :: s => jx_n r ls (.int (z * y) :: s) h
    | _ => none
  | 17 => match st with
    | .int y :: .int z :: s => if y = 0 then none else jx_n r ls (.int (z / y) :: s) h
    | _ => none
  | 18 => match st with
    | .int y :: .int z :: s => if y = 0 then none else jx_n r ls (.int (z - z / y * y) :: s) h
    | _ => none
  | 19 => match st with
    | .int y :: s => jx_n r ls (.int (-y) :: s) h
    | _ => none
  | 20 => match st with
    | .int y :: .int z :: s => jx_n r ls (.int (z &&& y) :: s) h
    | _ => none
  | 21 => match st with
    | .int y :: .int z :: s => jx_n r ls (.int (z ||| y) :: s) h
    | _ => none
  | 22 => match st with
    | .int y :: .int z :: s => jx_n r ls (.int (z ^^^ y) :: s) h
    | _ => none
  | 23 => match st with
    | .int y :: .int z :: s => jx_n r ls (.int (z <<< (y &&& 31)) :: s) h
    | _ => none
  | 24 => match st with
    | .int y :: .int z :: s => jx_n r ls (.int (z >>> (y &&& 31)) :: s) h
    | _ => none
  | 25 => match st with
    | .int y :: .int z :: s => jx_n r ls (.int (z.toUInt32 >>> (y.toUInt32 &&& Int32.toUInt32 31)).toInt32 :: s) h
    | _ => none
  | 26 => match st with
    | .int y :: s => jx_n r ls (.int y.toInt8.toInt32 :: s) h
    | _ => none
  | 27 => match st with
    | .int y :: s => jx_n r ls (.int y.toInt16.toInt32 :: s) h
    | _ => none
  | 28 => match st with
    | .int y :: s => jx_n r ls (.int y :: .int y :: s) h
    | .ref y :: s => jx_n r ls (.ref y :: .ref y :: s) h
    | _ => none
  | 29 => match st with
    | .int y :: .ref z :: s => jx_n r ls (.int y :: .ref z :: .int y :: .ref z :: s) h
    | _ => none
  | 30 => match st with
    | .int y :: .ref z :: s => jx_n r ls (.int y :: .ref z :: .int y :: s) h
    | _ => none
  | 31 => match st with
    | .int _ :: s => jx_n r ls s h
    | _ => none
  | 32 => match st with
    | .ref o :: s => if h.1[o]? = some (10 + a, jx_N a) then jx_n r ls (.int (h.2.2.1 (64 * o + b)) :: s) h else none
    | _ => none
  | 33 => match st with
    | .ref o :: s => if h.1[o]? = some (10 + a, jx_N a) then jx_n r ls (h.2.1 (64 * o + b) :: s) h else none
    | _ => none
  | 34 => match st with
    | .int v :: .ref o :: s => if h.1[o]? = some (10 + a, jx_N a) then jx_n r ls s (h.1, h.2.1, jx_up h.2.2.1 (64 * o + b) v, h.2.2.2) else none
    | _ => none
  | 35 => match st with
    | .int v :: .ref o :: s => if h.1[o]? = some (10 + a, jx_N a) ∧ (v = 0 ∨ v = 1) then jx_n r ls s (h.1, h.2.1, jx_up h.2.2.1 (64 * o + b) v, h.2.2.2) else none
    | _ => none
  | 36 => match st with
    | .ref v :: .ref o :: s => if h.1[o]? = some (10 + a, jx_N a) then jx_n r ls s (h.1, jx_up h.2.1 (64 * o + b) (.ref v), h.2.2.1, h.2.2.2) else none
    | _ => none
  | 37 => match st with
    | .ref v :: .ref o :: s => if h.1[o]? = some (10 + a, jx_N a) then jx_n r ls s (h.1, jx_up h.2.1 (64 * o + b) (.ref v), h.2.2.1, h.2.2.2) else none
    | _ => none
  | 38 => match st with
    | .int i :: .ref o :: s => match h.1[o]? with
      | some (0, n) => if jx_in i n then jx_n r ls (.int (h.2.2.2 o i.toNatClampNeg) :: s) h else none
      | _ => none
    | _ => none
  | 39 => match st with
    | .int i :: .ref o :: s => match h.1[o]? with
      | some (1, n) => if jx_in i n then jx_n r ls (.int (h.2.2.2 o i.toNatClampNeg) :: s) h else none
      | some (2, n) => if jx_in i n then jx_n r ls (.int (h.2.2.2 o i.toNatClampNeg) :: s) h else none
      | _ => none
    | _ => none
  | 41 => match st with
    | .int v :: .int i :: .ref o :: s => match h.1[o]? with
      | some (0, n) => if jx_in i n then jx_n r ls s (h.1, h.2.1, h.2.2.1, jx_up2 h.2.2.2 o i.toNatClampNeg v) else none
      | _ => none
    | _ => none
  | 42 => match st with
    | .int v :: .int i :: .ref o :: s => match h.1[o]? with
      | some (1, n) => if jx_in i n then jx_n r ls s (h.1, h.2.1, h.2.2.1, jx_up2 h.2.2.2 o i.toNatClampNeg v.toInt8.toInt32) else none
      | some (2, n) => if jx_in i n then jx_n r ls s (h.1, h.2.1, h.2.2.1, jx_up2 h.2.2.2 o i.toNatClampNeg (v &&& 1)) else none
      | _ => none
    | _ => none
  | 44 => match st with
    | .int i :: .ref o :: s => match h.1[o]? with
      | some (4, n) => if jx_in i n ∧ n ≤ 64 then (match h.2.1 (64 * o + i.toNatClampNeg) with | .ref q => jx_n r ls (.ref q :: s) h | _ => none) else none
      | _ => none
    | _ => none
  | 45 => match st with
    | .ref v :: .int i :: .ref o :: s => match h.1[o]? with
      | some (4, n) => if jx_in i n ∧ n ≤ 64 ∧ h.1[v]? = some (10 + 8, jx_N 8) then jx_n r ls s (h.1, jx_up h.2.1 (64 * o + i.toNatClampNeg) (.ref v), h.2.2.1, h.2.2.2) else none
      | _ => none
    | _ => none
  | 46 => match st with
    | .int n :: s => if ¬ n < 0 ∧ n.toNatClampNeg ≤ 1000 then jx_n r ls (.ref h.1.length :: s) (h.1 ++ [(a, n.toNatClampNeg)], h.2.1, h.2.2.1, fun o => if o = h.1.length then fun _ => 0 else h.2.2.2 o) else none
    | _ => none
  | 47 => match st with
    | .int n :: s => if ¬ n < 0 ∧ n.toNatClampNeg ≤ 64 then jx_n r ls (.ref h.1.length :: s) (h.1 ++ [(4, n.toNatClampNeg)], fun q => if 64 * h.1.length ≤ q then .null else h.2.1 q, h.2.2.1, h.2.2.2) else none
    | _ => none
  | 48 => jx_n r ls (.ref h.1.length :: st) (h.1 ++ [(10 + a, jx_N a)], fun q => if 64 * h.1.length ≤ q then .null else h.2.1 q, fun q => if 64 * h.1.length ≤ q then 0 else h.2.2.1 q, h.2.2.2)
  | 49 => match (st.take b).reverse with
    | .ref o :: as => if h.1[o]? = some (10 + c, jx_N c) ∧ as.length + 1 = b ∧ jx_c8 (st.drop b) then some (.inr (.inl (a, .ref o :: as, r, ls, st.drop b))) else none
    | _ => none
  | 50 => if (st.take b).length = b ∧ jx_c8 (st.drop b) then some (.inr (.inl (a, (st.take b).reverse, r, ls, st.drop b))) else none
  | 51 => match (st.take b).reverse with
    | .ref o :: as => if as.length + 1 = b ∧ jx_c8 (st.drop b) then some (.inr (.inl (a, .ref o :: as, r, ls, st.drop b))) else none
    | _ => none
  | 52 => match st with
    | .ref _ :: s => if jx_c8 s then jx_n r ls s h else none
    | _ => none
  | 53 => match st with
    | .int n :: .int dp :: .ref q :: .int sp :: .ref o :: s => match h.1[o]?, h.1[q]? with
      | some (0, n0), some (0, n1) => if ¬ sp < 0 ∧ ¬ dp < 0 ∧ ¬ n < 0 ∧ sp.toNatClampNeg + n.toNatClampNeg ≤ n0 ∧ dp.toNatClampNeg + n.toNatClampNeg ≤ n1 ∧ jx_c8 s
        then jx_n r ls s (h.1, h.2.1, h.2.2.1, fun z => if z = q then va_cpy (h.2.2.2 o) (h.2.2.2 q) sp.toNatClampNeg dp.toNatClampNeg n.toNatClampNeg else h.2.2.2 z) else none
      | _, _ => none
    | _ => none
  | 54 => jx_n (jx_at bl a) ls st h
  | 55 => match st with
    | .int z :: s => jx_n (if z = 0 then jx_at bl a else r) ls s h
    | _ => none
  | 56 => match st with
    | .int z :: s => jx_n (if ¬ z = 0 then jx_at bl a else r) ls s h
    | _ => none
  | 57 => match st with
    | .int z :: s => jx_n (if z < 0 then jx_at bl a else r) ls s h
    | _ => none
  | 58 => match st with
    | .int z :: s => jx_n (if 0 ≤ z then jx_at bl a else r) ls s h
    | _ => none
  | 59 => match st with
    | .int z :: s => jx_n (if 0 < z then jx_at bl a else r) ls s h
    | _ => none
  | 60 => match st with
    | .int z :: s => jx_n (if z ≤ 0 then jx_at bl a else r) ls s h
    | _ => none
  | 61 => match st with
    | .int y :: .int z :: s => jx_n (if z = y then jx_at bl a else r) ls s h
    | _ => none
  | 62 => match st with
    | .int y :: .int z :: s => jx_n (if ¬ z = y then jx_at bl a else r) ls s h
    | _ => none
  | 63 => match st with
    | .int y :: .int z :: s => jx_n (if z < y then jx_at bl a else r) ls s h
    | _ => none
  | 64 => match st with
    | .int y :: .int z :: s => jx_n (if y ≤ z then jx_at bl a else r) ls s h
    | _ => none
  | 65 => match st with
    | .int y :: .int z :: s => jx_n (if y < z then jx_at bl a else r) ls s h
    | _ => none
  | 66 => match st with
    | .int y :: .int z :: s => jx_n (if z ≤ y then jx_at bl a else r) ls s h
    | _ => none
  | 67 => match st with
    | .int z :: s => jx_n (jx_at bl (jx_lk L z a)) ls s h
    | _ => none
  | 68 => match st with
    | .int z :: s => jx_n (jx_at bl (jx_lk L z a)) ls s h
    | _ => none
  | 69 => match st with
    | [.int z] => some (.inr (.inr (some (.int z))))
    | _ => none
  | 70 => match st with
    | [.int z] => if z = 0 ∨ z = 1 then some (.inr (.inr (some (.int z)))) else none
    | _ => none
  | 71 => match st with
    | [] => some (.inr (.inr none))
    | _ => none
  | 72 => match st with
    | .int y :: .int z :: s => if jx_c8 s then jx_n r ls (.int (jx_max z y) :: s) h else none
    | _ => none
  | 73 => match st with
    | .int y :: .int z :: s => if jx_c8 s then jx_n r ls (.int (jx_min z y) :: s) h else none
    | _ => none
  | _ => none
/-- the instruction that an entry stands for, and its length -/
def jx_ins (e : jx_E) : Instr × Nat :=
  match e with
  | (pc, op, (a, b, c, d), x, L) =>
  match op with
  | 0 => (.iload_n (Fin.ofNat 4 a), 1)
  | 1 => (.iload a, 2)
  | 2 => (.aload_n (Fin.ofNat 4 a), 1)
  | 3 => (.aload a, 2)
  | 4 => (.istore_n (Fin.ofNat 4 a), 1)
  | 5 => (.istore a, 2)
  | 6 => (.astore_n (Fin.ofNat 4 a), 1)
  | 7 => (.astore a, 2)
  | 8 => (.iconst x.toInt, 1)
  | 9 => (.bipush x.toInt, 2)
  | 10 => (.sipush x.toInt, 3)
  | 11 => (.ldc d, 2)
  | 12 => (.ldc_w d, 3)
  | 13 => (.iinc a x.toInt, 3)
  | 14 => (.iadd, 1)
  | 15 => (.isub, 1)
  | 16 => (.imul, 1)
  | 17 => (.idiv, 1)
  | 18 => (.irem, 1)
  | 19 => (.ineg, 1)
  | 20 => (.iand, 1)
  | 21 => (.ior, 1)
  | 22 => (.ixor, 1)
  | 23 => (.ishl, 1)
  | 24 => (.ishr, 1)
  | 25 => (.iushr, 1)
  | 26 => (.i2b, 1)
  | 27 => (.i2s, 1)
  | 28 => (.dup, 1)
  | 29 => (.dup2, 1)
  | 30 => (.dup_x1, 1)
  | 31 => (.pop, 1)
  | 32 => (.getfield d, 3)
  | 33 => (.getfield d, 3)
  | 34 => (.putfield d, 3)
  | 35 => (.putfield d, 3)
  | 36 => (.putfield d, 3)
  | 37 => (.putfield d, 3)
  | 38 => (.iaload, 1)
  | 39 => (.baload, 1)
  | 41 => (.iastore, 1)
  | 42 => (.bastore, 1)
  | 44 => (.aaload, 1)
  | 45 => (.aastore, 1)
  | 46 => (.newarray (if a = 0 then .int else if a = 1 then .byte else .boolean), 2)
  | 47 => (.anewarray d, 3)
  | 48 => (.new d, 3)
  | 49 => (.invokevirtual d, 3)
  | 50 => (.invokestatic d, 3)
  | 51 => (.invokespecial d, 3)
  | 52 => (.invokespecial d, 3)
  | 53 => (.invokestatic d, 3)
  | 54 => (.goto ((a : Int) - pc), 3)
  | 55 => (.ifCond .eq ((a : Int) - pc), 3)
  | 56 => (.ifCond .ne ((a : Int) - pc), 3)
  | 57 => (.ifCond .lt ((a : Int) - pc), 3)
  | 58 => (.ifCond .ge ((a : Int) - pc), 3)
  | 59 => (.ifCond .gt ((a : Int) - pc), 3)
  | 60 => (.ifCond .le ((a : Int) - pc), 3)
  | 61 => (.if_icmp .eq ((a : Int) - pc), 3)
  | 62 => (.if_icmp .ne ((a : Int) - pc), 3)
  | 63 => (.if_icmp .lt ((a : Int) - pc), 3)
  | 64 => (.if_icmp .ge ((a : Int) - pc), 3)
  | 65 => (.if_icmp .gt ((a : Int) - pc), 3)
  | 66 => (.if_icmp .le ((a : Int) - pc), 3)
  | 67 => (.tableswitch ((a : Int) - pc) x.toInt (x.toInt + L.length - 1) (L.map fun q => (q.2 : Int) - pc).toArray, d)
  | 68 => (.lookupswitch ((a : Int) - pc) (L.map fun q => (q.1.toInt, (q.2 : Int) - pc)).toArray, d)
  | 69 => (.ireturn, 1)
  | 70 => (.ireturn, 1)
  | 71 => (.return_, 1)
  | 72 => (.invokestatic d, 3)
  | 73 => (.invokestatic d, 3)
  | _ => (.nop, 1)
/-- the small machine, with d calls deep and n steps long at most -/
def jx_x (MS : List jx_M) : Nat → Nat → jx_B → List jx_E → List Value → List Value → jx_H → Option (Option Value × jx_H)
  | _, 0, _, _, _, _, _ => none
  | d, n + 1, bl, rem, ls, st, h =>
    match rem with
    | [] => none
    | e :: r =>
      match jx_s bl e r ls st h with
      | none => none
      | some (.inl q) => jx_x MS d n bl q.1 q.2.1 q.2.2.1 q.2.2.2
      | some (.inr (.inr v)) => some (v, h)
      | some (.inr (.inl k)) =>
        match d, MS[k.1]? with
        | d' + 1, some i =>
          if k.2.1.length = i.2.2.2.2.2.1 ∧ k.2.1.all (fun v => decide (v.category = 1)) = true then
            match jx_x MS d' n i.2.2.2.2.2.2.2 (jx_at i.2.2.2.2.2.2.2 0) (k.2.1 ++ List.replicate (i.2.2.1 - k.2.1.length) (.retAddr 0)) [] h with
            | some y => jx_x MS d n bl k.2.2.1 k.2.2.2.1 (y.1.toList ++ k.2.2.2.2) y.2
            | none => none
          else none
        | _, _ => none
