/-! ===== the law's loop ===== -/
def ll_offs : Array Int := #[185, 210, 235, 248, 261, 274, 342, 410, 447, 508, 545, 558, 583, 620, 657, 682, 719, 732, 745, 770, 819, 868, 929, 966, 1003, 1028, 1065, 1090, 1127, 1164, 1201, 1250, 1287, 1324, 1337, 1350, 1363, 1388, 1425, 1462, 1487, 1512, 1537]
theorem ll_d39 : decode code 39 = .ok (.tableswitch 1593 0 42 ll_offs, 185) := by decide +kernel
theorem ll_stop {L n : Nat} (hL : L ≤ 2560) (hn : n ≤ 512) (h : ¬ (nI L - 5 < nI (5 * n))) : 5 * n + 5 ≤ L := by
  refine Nat.not_lt.mp fun q => h ?_
  have a1 : (nI L).toInt = L := nI_toInt (by omega)
  have a2 : (nI (5 * n)).toInt = (5 * n : Nat) := nI_toInt (by omega)
  rw [Int32.lt_iff_toInt_lt, Int32.toInt_sub, a1, a2]
  have a3 : (5 : Int32).toInt = 5 := by decide
  rw [a3]
  simp only [Int.bmod]
  split <;> omega
section LLL
variable {p : Program} {l : Launch} {e : Env} {R : Room} {s : State} {m : MethodId} {below : List Frame} {meth : Method} {c : Code} {b L : Nat} {xs : Nat → Int32} {D : va_G} {cA : Nat → ClassId} {cL : ClassId} {sa : Nat → Nat} {Q : State → Prop} {cells slots pc : Nat} {H : Heap} {locs : List Loc} {ls : Array Slot} {rest : List Value} {n : Nat}
/-- the switch -/
theorem ll_switch (C : ll_C p l s m meth c b L xs D cA cL sa) (hL : L ≤ 2560) (hn5 : 5 * n + 5 ≤ L) (hRf : R.frames = 2048) (hRl : R.locals = 84000) (hc : cells + 1 ≤ R.cells) (hs : slots + 6 ≤ R.slots) (hA : ll_A s D cA cL n H locs) (hl : lv_has ls 7 (ll_v s b n)) (z : Int32)
    (kk : ∀ (H1 : Heap) (locs1 : List Loc) (ls1 : Array Slot), ll_A s D cA cL (n + 1) H1 locs1 → lv_has ls1 7 (ll_v s b n) → W p l e R s m #[Value.ref b] below meth c H1 locs1 (cells + 1) (slots + 6) Q (F0 m 1632 ls1 [])) : W p l e R s m #[Value.ref b] below meth c H locs cells slots Q (F0 m 39 ls [.int z]) := by
  have hx := C.1.1
  have hb := C.1.2.1
  have k1 : ∀ (H1 : Heap) (locs1 : List Loc), ll_A s D cA cL (n + 1) H1 locs1 → W p l e R s m #[Value.ref b] below meth c H1 locs1 cells slots Q (F0 m 1632 ls []) := fun H1 locs1 hA1 => W.widen (k := cells + 1) (n := slots + 6) (by omega) (by omega) (kk H1 locs1 ls hA1 hl)
  rcases vd_cases z (n := 43) (by omega) with ⟨k, hk, rfl⟩ | hz9
  · rcases (show k = 0 ∨ k = 1 ∨ k = 2 ∨ k = 3 ∨ k = 4 ∨ k = 5 ∨ k = 6 ∨ k = 7 ∨ k = 8 ∨ k = 9 ∨ k = 10 ∨ k = 11 ∨ k = 12 ∨ k = 13 ∨ k = 14 ∨ k = 15 ∨ k = 16 ∨ k = 17 ∨ k = 18 ∨ k = 19 ∨ k = 20 ∨ k = 21 ∨ k = 22 ∨ k = 23 ∨ k = 24 ∨ k = 25 ∨ k = 26 ∨ k = 27 ∨ k = 28 ∨ k = 29 ∨ k = 30 ∨ k = 31 ∨ k = 32 ∨ k = 33 ∨ k = 34 ∨ k = 35 ∨ k = 36 ∨ k = 37 ∨ k = 38 ∨ k = 39 ∨ k = 40 ∨ k = 41 ∨ k = 42 by omega) with rfl | rfl | rfl | rfl | rfl | rfl | rfl | rfl | rfl | rfl | rfl | rfl | rfl | rfl | rfl | rfl | rfl | rfl | rfl | rfl | rfl | rfl | rfl | rfl | rfl | rfl | rfl | rfl | rfl | rfl | rfl | rfl | rfl | rfl | rfl | rfl | rfl | rfl | rfl | rfl | rfl | rfl | rfl
    · exact lv_tableIn (off := 185) (tgt := 224) hx hb ll_d39 (by decide) (by decide) (by decide) (by decide) (ll_case0 C hL hn5 hRf hRl (by omega) (by omega) hA hl k1)
    · exact lv_tableIn (off := 210) (tgt := 249) hx hb ll_d39 (by decide) (by decide) (by decide) (by decide) (ll_case1 C hL hn5 hRf hRl (by omega) (by omega) hA hl k1)
    · exact lv_tableIn (off := 235) (tgt := 274) hx hb ll_d39 (by decide) (by decide) (by decide) (by decide) (ll_case2 C hL hn5 hRf hRl (by omega) (by omega) hA hl k1)
    · exact lv_tableIn (off := 248) (tgt := 287) hx hb ll_d39 (by decide) (by decide) (by decide) (by decide) (ll_case3 C hL hn5 hRf hRl (by omega) (by omega) hA hl k1)
    · exact lv_tableIn (off := 261) (tgt := 300) hx hb ll_d39 (by decide) (by decide) (by decide) (by decide) (ll_case4 C hL hn5 hRf hRl (by omega) (by omega) hA hl k1)
    · exact lv_tableIn (off := 274) (tgt := 313) hx hb ll_d39 (by decide) (by decide) (by decide) (by decide) (ll_case5 C hL hn5 hRf hRl hc hs hA hl kk)
    · exact lv_tableIn (off := 342) (tgt := 381) hx hb ll_d39 (by decide) (by decide) (by decide) (by decide) (ll_case6 C hL hn5 hRf hRl hc hs hA hl kk)
    · exact lv_tableIn (off := 410) (tgt := 449) hx hb ll_d39 (by decide) (by decide) (by decide) (by decide) (ll_case7 C hL hn5 hRf hRl (by omega) (by omega) hA hl k1)
    · exact lv_tableIn (off := 447) (tgt := 486) hx hb ll_d39 (by decide) (by decide) (by decide) (by decide) (ll_case8 C hL hn5 hRf hRl (by omega) (by omega) hA hl k1)
    · exact lv_tableIn (off := 508) (tgt := 547) hx hb ll_d39 (by decide) (by decide) (by decide) (by decide) (ll_case9 C hL hn5 hRf hRl (by omega) (by omega) hA hl k1)
    · exact lv_tableIn (off := 545) (tgt := 584) hx hb ll_d39 (by decide) (by decide) (by decide) (by decide) (ll_case10 C hL hn5 hRf hRl (by omega) (by omega) hA hl k1)
    · exact lv_tableIn (off := 558) (tgt := 597) hx hb ll_d39 (by decide) (by decide) (by decide) (by decide) (ll_case11 C hL hn5 hRf hRl (by omega) (by omega) hA hl k1)
    · exact lv_tableIn (off := 583) (tgt := 622) hx hb ll_d39 (by decide) (by decide) (by decide) (by decide) (ll_case12 C hL hn5 hRf hRl (by omega) (by omega) hA hl k1)
    · exact lv_tableIn (off := 620) (tgt := 659) hx hb ll_d39 (by decide) (by decide) (by decide) (by decide) (ll_case13 C hL hn5 hRf hRl (by omega) (by omega) hA hl k1)
    · exact lv_tableIn (off := 657) (tgt := 696) hx hb ll_d39 (by decide) (by decide) (by decide) (by decide) (ll_case14 C hL hn5 hRf hRl (by omega) (by omega) hA hl k1)
    · exact lv_tableIn (off := 682) (tgt := 721) hx hb ll_d39 (by decide) (by decide) (by decide) (by decide) (ll_case15 C hL hn5 hRf hRl (by omega) (by omega) hA hl k1)
    · exact lv_tableIn (off := 719) (tgt := 758) hx hb ll_d39 (by decide) (by decide) (by decide) (by decide) (ll_case16 C hL hn5 hRf hRl (by omega) (by omega) hA hl k1)
    · exact lv_tableIn (off := 732) (tgt := 771) hx hb ll_d39 (by decide) (by decide) (by decide) (by decide) (ll_case17 C hL hn5 hRf hRl (by omega) (by omega) hA hl k1)
    · exact lv_tableIn (off := 745) (tgt := 784) hx hb ll_d39 (by decide) (by decide) (by decide) (by decide) (ll_case18 C hL hn5 hRf hRl (by omega) (by omega) hA hl k1)
    · exact lv_tableIn (off := 770) (tgt := 809) hx hb ll_d39 (by decide) (by decide) (by decide) (by decide) (ll_case19 C hL hn5 hRf hRl (by omega) (by omega) hA hl k1)
    · exact lv_tableIn (off := 819) (tgt := 858) hx hb ll_d39 (by decide) (by decide) (by decide) (by decide) (ll_case20 C hL hn5 hRf hRl (by omega) (by omega) hA hl k1)
    · exact lv_tableIn (off := 868) (tgt := 907) hx hb ll_d39 (by decide) (by decide) (by decide) (by decide) (ll_case21 C hL hn5 hRf hRl (by omega) (by omega) hA hl k1)
    · exact lv_tableIn (off := 929) (tgt := 968) hx hb ll_d39 (by decide) (by decide) (by decide) (by decide) (ll_case22 C hL hn5 hRf hRl (by omega) (by omega) hA hl k1)
    · exact lv_tableIn (off := 966) (tgt := 1005) hx hb ll_d39 (by decide) (by decide) (by decide) (by decide) (ll_case23 C hL hn5 hRf hRl (by omega) (by omega) hA hl k1)
    · exact lv_tableIn (off := 1003) (tgt := 1042) hx hb ll_d39 (by decide) (by decide) (by decide) (by decide) (ll_case24 C hL hn5 hRf hRl (by omega) (by omega) hA hl k1)
    · exact lv_tableIn (off := 1028) (tgt := 1067) hx hb ll_d39 (by decide) (by decide) (by decide) (by decide) (ll_case25 C hL hn5 hRf hRl (by omega) (by omega) hA hl k1)
    · exact lv_tableIn (off := 1065) (tgt := 1104) hx hb ll_d39 (by decide) (by decide) (by decide) (by decide) (ll_case26 C hL hn5 hRf hRl (by omega) (by omega) hA hl k1)
    · exact lv_tableIn (off := 1090) (tgt := 1129) hx hb ll_d39 (by decide) (by decide) (by decide) (by decide) (ll_case27 C hL hn5 hRf hRl (by omega) (by omega) hA hl k1)
    · exact lv_tableIn (off := 1127) (tgt := 1166) hx hb ll_d39 (by decide) (by decide) (by decide) (by decide) (ll_case28 C hL hn5 hRf hRl (by omega) (by omega) hA hl k1)
    · exact lv_tableIn (off := 1164) (tgt := 1203) hx hb ll_d39 (by decide) (by decide) (by decide) (by decide) (ll_case29 C hL hn5 hRf hRl (by omega) (by omega) hA hl k1)
    · exact lv_tableIn (off := 1201) (tgt := 1240) hx hb ll_d39 (by decide) (by decide) (by decide) (by decide) (ll_case30 C hL hn5 hRf hRl (by omega) (by omega) hA hl k1)
    · exact lv_tableIn (off := 1250) (tgt := 1289) hx hb ll_d39 (by decide) (by decide) (by decide) (by decide) (ll_case31 C hL hn5 hRf hRl (by omega) (by omega) hA hl k1)
    · exact lv_tableIn (off := 1287) (tgt := 1326) hx hb ll_d39 (by decide) (by decide) (by decide) (by decide) (ll_case32 C hL hn5 hRf hRl (by omega) (by omega) hA hl k1)
    · exact lv_tableIn (off := 1324) (tgt := 1363) hx hb ll_d39 (by decide) (by decide) (by decide) (by decide) (ll_case33 C hL hn5 hRf hRl (by omega) (by omega) hA hl k1)
    · exact lv_tableIn (off := 1337) (tgt := 1376) hx hb ll_d39 (by decide) (by decide) (by decide) (by decide) (ll_case34 C hL hn5 hRf hRl (by omega) (by omega) hA hl k1)
    · exact lv_tableIn (off := 1350) (tgt := 1389) hx hb ll_d39 (by decide) (by decide) (by decide) (by decide) (ll_case35 C hL hn5 hRf hRl (by omega) (by omega) hA hl k1)
    · exact lv_tableIn (off := 1363) (tgt := 1402) hx hb ll_d39 (by decide) (by decide) (by decide) (by decide) (ll_case36 C hL hn5 hRf hRl (by omega) (by omega) hA hl k1)
    · exact lv_tableIn (off := 1388) (tgt := 1427) hx hb ll_d39 (by decide) (by decide) (by decide) (by decide) (ll_case37 C hL hn5 hRf hRl (by omega) (by omega) hA hl k1)
    · exact lv_tableIn (off := 1425) (tgt := 1464) hx hb ll_d39 (by decide) (by decide) (by decide) (by decide) (ll_case38 C hL hn5 hRf hRl (by omega) (by omega) hA hl k1)
    · exact lv_tableIn (off := 1462) (tgt := 1501) hx hb ll_d39 (by decide) (by decide) (by decide) (by decide) (ll_case39 C hL hn5 hRf hRl (by omega) (by omega) hA hl k1)
    · exact lv_tableIn (off := 1487) (tgt := 1526) hx hb ll_d39 (by decide) (by decide) (by decide) (by decide) (ll_case40 C hL hn5 hRf hRl (by omega) (by omega) hA hl k1)
    · exact lv_tableIn (off := 1512) (tgt := 1551) hx hb ll_d39 (by decide) (by decide) (by decide) (by decide) (ll_case41 C hL hn5 hRf hRl (by omega) (by omega) hA hl k1)
    · exact lv_tableIn (off := 1537) (tgt := 1576) hx hb ll_d39 (by decide) (by decide) (by decide) (by decide) (ll_case42 C hL hn5 hRf hRl hc hs hA hl kk)
  · have hz8 : z.toInt < 0 ∨ 42 < z.toInt := by
      rcases hz9 with q | q
      · left
        rw [Int32.lt_iff_toInt_lt] at q
        exact q
      · right
        have q' : (43 : Int32) ≤ z := q
        rw [Int32.le_iff_toInt_le] at q'
        have a43 : (43 : Int32).toInt = 43 := by decide
        omega
    refine lv_tableOut (tgt := 1632) hx hb ll_d39 hz8 (by decide) ?_
    obtain ⟨h, σ, τ, P, Q0, f, g, hW, hR, h95, hln, hP, hz, hS⟩ := hA
    exact k1 H locs ⟨h, σ, τ, P, Q0, f, g, hW, rAll_step hR, h95, hln, hP, hz, hS⟩
end LLL
set_option maxHeartbeats 4000000 in
theorem ll_loop {p : Program} {l : Launch} {e : Env} {s : State} {m : MethodId} {below : List Frame} {meth : Method} {c : Code} {b L : Nat} {xs : Nat → Int32} {D : va_G} {cA : Nat → ClassId} {cL : ClassId} {sa : Nat → Nat} (C : ll_C p l s m meth c b L xs D cA cL sa) (hL : L ≤ 2560) :
    ∀ (k n : Nat), n + k = 513 → (∀ j, j < n → 5 * j + 5 ≤ L) → ∀ (H : Heap) (locs : List Loc) (ls : Array Slot), ll_A s D cA cL n H locs → lv_has ls 7 (ll_v s b n) → W p l e room_1 s m #[Value.ref b] below meth c H locs (1000 + n) (10000 + 6 * n) (lw_Z below #[Value.ref b] s) (F0 m 23 ls []) := by
  obtain ⟨hx, hb, hr, hml, hown, hts, hX, hbl, hlocks, hgv⟩ := id C.1
  have hbA : ¬ (fun q : Nat => s.heap.size ≤ q) b := Nat.not_le.mpr hbl
  intro k
  induction k with
  | zero =>
    intro n hn hj
    have := hj 512 (by omega)
    omega
  | succ k ih =>
    intro n hn hj H locs ls hA hl
    have hS : va_S (fun q => s.heap.size ≤ q) s.heap H locs := by
      obtain ⟨h, σ, τ, P, Q0, f, g, hW, hR, h95, hln, hP, hz, hS⟩ := hA
      exact hS
    refine lv_iload hx hb (by decide +kernel) (lv_at hl 4 rfl) ?_
    refine lv_aload_n (k := 0) hx hb (by decide +kernel) rfl (lv_at hl 0 rfl) ?_
    refine va_slen hx hb hX hbl hbA hS (by decide +kernel) ?_
    refine lv_iconst (n := 5) (v := 5) hx hb (by decide +kernel) (by decide) ?_
    refine lv_isub hx hb (by decide +kernel) ?_
    refine lv_icmp_gt (off := 1609) (tgt := 1638) hx hb (by decide +kernel) (by decide) (fun q => ?_) (fun q => ?_)
    · refine lv_iconst (n := 1) (v := 1) hx hb (by decide +kernel) (by decide) ?_
      refine va_forget (fun q hq => hS.2.2 q hq) ?_
      refine W.widen (k := 601024) (n := 7293034) (by omega) (by omega) ?_
      exact lw_ret hx hb hr hlocks (by decide +kernel)
    · have hn5 : 5 * n + 5 ≤ L := ll_stop hL (by omega) q
      refine lv_aload_n (k := 0) hx hb (by decide +kernel) rfl (lv_at hl 0 rfl) ?_
      refine lv_iload hx hb (by decide +kernel) (lv_at hl 4 rfl) ?_
      refine va_sld hx hb hX hbl hbA hS (vp_in_nI (by omega) (by omega)) (by decide +kernel) ?_
      refine lv_bipush (n := 63) (v := 63) hx hb (by decide +kernel) (by decide) ?_
      refine lv_iand hx hb (by decide +kernel) ?_
      refine ll_switch C hL hn5 rfl rfl (show 1000 + n + 1 ≤ 601024 by omega) (show 10000 + 6 * n + 6 ≤ 7293034 by omega) hA hl _ ?_
      intro H1 locs1 ls1 hA1 hl1
      refine lv_iinc (v := nI (5 * (n + 1))) (n := 5) (lv' := [(4, .int (nI (5 * (n + 1)))), (0, .ref b), (1, .ref s.heap.size), (2, .ref (s.heap.size + 65)), (3, .ref (s.heap.size + 95))]) hx hb (by decide +kernel) hl1 (k := 4) rfl (by show nI (5 * n) + nI 5 = _; rw [nI_add]; rfl) (by decide) rfl (fun ls2 hl2 => ?_)
      refine lv_goto (off := -1612) (tgt := 23) hx hb (by decide +kernel) (by decide) ?_
      refine ih (n + 1) (by omega) (fun j hj1 => ?_) H1 locs1 ls2 hA1 (lv_sub hl2 [1, 2, 3, 4, 0] rfl)
      by_cases hjn : j = n
      · subst hjn
        exact hn5
      · exact hj j (by omega)
