/-! ===== the law's calls that may throw ===== -/
theorem ll_gi {own : String} {idx : Nat} {y : MethodName} {cw : Cond} (h1 : ∀ w ∈ va_wsS own idx y [cw], w ∈ lw_g) : GoodIn lw_g (va_wsS own idx y (cw :: lw_g)) := by
  intro w hw
  have hm : w ∈ lw_g := by
    unfold va_wsS at hw h1
    rcases List.mem_append.mp hw with h | h
    · exact h1 w (List.mem_append_left _ h)
    · rcases List.mem_cons.mp h with h | h
      · exact h1 w (List.mem_append_right _ (by rw [h]; exact List.mem_singleton.mpr rfl))
      · exact h
  exact ⟨hm, good_of_word (List.mem_filter.mp hm).2⟩
section LLT
variable {p : Program} {l : Launch} {e : Env} {R : Room} {s : State} {m : MethodId} {below : List Frame} {meth : Method} {c : Code} {b L : Nat} {xs : Nat → Int32} {D : va_G} {cA : Nat → ClassId} {cL : ClassId} {sa : Nat → Nat} {Q : State → Prop} {cells slots pc : Nat} {H : Heap} {locs : List Loc} {ls : Array Slot} {rest : List Value} {n : Nat}
theorem ll_lcmp {cc : ByteArray} {args : Array Value} (hexec : p.tables.exec = Jvm.exec) (hb : c.code = cc) {x : Int64} (hdg : decode cc pc = .ok (.lcmp, 1)) (k : W p l e R s m args below meth c H locs cells slots Q (F0 m (pc + 1) ls (.int 0 :: rest))) : W p l e R s m args below meth c H locs cells slots Q (F0 m pc ls (.long x :: .long x :: rest)) := by
  intro T hT X
  obtain ⟨t, a, b⟩ := k T hT X
  refine ⟨t, ?_, b⟩
  have hlt : ¬ x > x := Int64.lt_irrefl
  jvm_step X.here [X.here.top, hexec, hb, hdg, hlt]
  exact a
set_option maxHeartbeats 4000000 in
theorem ll_case5 (C : ll_C p l s m meth c b L xs D cA cL sa) (hL : L ≤ 2560) (hn5 : 5 * n + 5 ≤ L) (hRf : R.frames = 2048) (hRl : R.locals = 84000) (hc : cells + 1 ≤ R.cells) (hs : slots + 6 ≤ R.slots) (hA : ll_A s D cA cL n H locs) (hl : lv_has ls 7 (ll_v s b n))
    (kk : ∀ (H1 : Heap) (locs1 : List Loc) (ls1 : Array Slot), ll_A s D cA cL (n + 1) H1 locs1 → lv_has ls1 7 (ll_v s b n) → W p l e R s m #[Value.ref b] below meth c H1 locs1 (cells + 1) (slots + 6) Q (F0 m 1632 ls1 [])) : W p l e R s m #[Value.ref b] below meth c H locs cells slots Q (F0 m 313 ls []) := by
  obtain ⟨h, σ, τ, P, Q0, f, g, hW, hR, h95, hln, hP, hz, hS⟩ := hA
  obtain ⟨good, hgd⟩ : ∃ good : Prop, good = ((∃ b, f_X3_hasPlace (xs (5 * n + 1)) σ = some (b, σ) ∧ ¬ b = 0) ∧ ¬ xs (5 * n + 2) < 0 ∧ xs (5 * n + 2) ≤ 5) := ⟨_, rfl⟩
  obtain ⟨r, τ', P', Q', hres, e2, e3, hR'⟩ : ∃ (r : Int32) (τ' : jT) (P' Q' : Nat), (good → f_X10_placeGood (xs (5 * n + 1)) (xs (5 * n + 2)) σ = some (r, σ)) ∧ f_X11_place (xs (5 * n + 1)) (xs (5 * n + 2)) τ = some (r, τ') ∧ ((good ∧ τ'.1 4172 = 0) ∨ (¬ good ∧ τ'.1 4172 = 1)) ∧ rAll (n + 1) P' Q' σ τ' := by
    rw [hgd]
    rcases eq_place hR (xs (5 * n + 1)) (xs (5 * n + 2)) with ⟨hg, r, e1, τ', P', Q', e2, e3, hR'⟩ | ⟨hg, r, τ', P', Q', e2, e3, hR'⟩
    · exact ⟨r, τ', P', Q', fun _ => e1, e2, Or.inl ⟨hg, e3⟩, hR'⟩
    · exact ⟨r, τ', P', Q', fun z => absurd z hg, e2, Or.inr ⟨hg, e3⟩, hR'⟩
  obtain ⟨h2, hsp2, hl2, hW2⟩ := sp_m hW (t_X11_place (lsM_ok hW) (d := 0) ⟨(r, τ'), e2, rfl, _, rfl⟩)
  obtain ⟨h3, hsp3, hl3, hW3⟩ := sp_m hW2 (t_X11_thrown (lsM_ok hW2) (d := 0) (rd := h2.2.1 4173) ⟨(τ'.1 4172, τ'), rfl, rfl, _, rfl⟩)
  have hx := C.1.1
  have hb := C.1.2.1
  have hgi : GoodIn lw_g (va_wsS "OfDifferentMindsLaw" 48 lh_y_place lh_w_place) := ll_gi (by decide +kernel)
  refine lv_aload_n (k := 1) hx hb (by decide +kernel) rfl (lv_at hl 1 rfl) ?_
  refine ll_arg C hS hl hL 1 (by decide) hn5 (by decide +kernel) ?_
  refine ll_arg C hS hl hL 2 (by decide) hn5 (by decide +kernel) ?_
  refine lv_aload_n (k := 3) hx hb (by decide +kernel) rfl (lv_at hl 3 rfl) ?_
  refine va_calli (mc := 1) (ms := 6) (vx_runSW (index := 48) (As := [.ref s.heap.size, .int (xs (5 * n + 1)), .int (xs (5 * n + 2)), .ref (s.heap.size + 95)]) (rest := []) (Ts := lw_g) ⟨hx, hb, (ll_c C).2.2.1, (ll_c C).2.2.2.1, (ll_c C).2.2.2.2.1⟩ (lh_place C.2.2.2.2 (base := s.heap.size) (D := D) (cA := cA) (cL := cL) (f := f) (g := g) (sa := sa) hW h95 hln hgd hres) (vx_cwSW 4 (ll_c C).2.2.2.2.1 hgi rfl rfl rfl (by decide +kernel) ⟨by rw [hRf]; decide, by rw [hRl]; decide⟩) ⟨lh_blind, fun U hU hWm => ⟨rfl, ⟨⟨by rw [hU]; exact hP, jx_KK.moved hWm.alike C.2.1, by rw [hU]; exact hz⟩, nx_P.warm hWm (fun a q1 q2 => by rw [hU]; exact hS.2.1 a q1 q2) C.2.2.2.1⟩, va_K.moved hWm.alike C.2.2.1⟩⟩ rfl rfl hl.1 rfl (lv_room (Nat.le_of_ble_eq_true rfl)) (show decode code 327 = .ok (.invokestatic 48, 3) by decide +kernel) ⟨hc, hs⟩) hS (fun _ _ z => z) (fun _ z => z) ?_
  intro k u t H1 locs1 ht _ hpost hB hz1 _ hS1
  obtain ⟨hP1, -, hz1⟩ := hB
  rw [ht] at hP1 hz1
  refine lv_istore (lv' := (5, .int k) :: ll_v s b n) hx hb (by decide +kernel) hl (by decide) rfl (fun ls hl => ?_)
  have hl0 : lv_has ls 7 (ll_v s b n) := lv_sub hl [1, 2, 3, 4, 5] rfl
  refine lv_aload_n (k := 2) hx hb (by decide +kernel) rfl (lv_at hl0 2 rfl) ?_
  refine ll_arg C hS1 hl0 hL 1 (by decide) hn5 (by decide +kernel) ?_
  refine ll_arg C hS1 hl0 hL 2 (by decide) hn5 (by decide +kernel) ?_
  refine lc_callV (O := lh_O cL u.1 u.2) (idx := 53) (o := 65) (as := [.int (xs (5 * n + 1)), .int (xs (5 * n + 2))]) (rest := []) (ll_c C) jm_at237 rfl hsp2 hl2 (hW.1 65 (by decide)) ((ll_c C).2.2.2.2.1 _ (by decide +kernel)) (by decide +kernel) (by rw [hRf]; decide) (by rw [hRl]; decide) hc hs hl0.1 (Nat.le_of_ble_eq_true rfl) hP1 hz1 hS1 rfl ?_
  intro H2 locs2 hP2 hz2 hS2
  refine lv_istore (lv' := (6, .int r) :: (5, .int k) :: ll_v s b n) hx hb (by decide +kernel) hl (by decide) rfl (fun ls hl => ?_)
  have hl0 : lv_has ls 7 (ll_v s b n) := lv_sub hl [2, 3, 4, 5, 6] rfl
  refine lv_aload_n (k := 2) hx hb (by decide +kernel) rfl (lv_at hl0 2 rfl) ?_
  refine lc_callV (O := lh_O cL u.1 u.2) (idx := 54) (o := 65) (as := []) (rest := []) (ll_c C) jm_at201 rfl hsp3 hl3 (hW2.1 65 (by decide)) ((ll_c C).2.2.2.2.1 _ (by decide +kernel)) (by decide +kernel) (by rw [hRf]; decide) (by rw [hRl]; decide) hc hs hl0.1 (Nat.le_of_ble_eq_true rfl) hP2 hz2 hS2 rfl ?_
  intro H3 locs3 hP3 hz3 hS3
  have hA3 : ll_A s D cA cL (n + 1) H3 locs3 := ⟨h3, σ, τ', P', Q', u.1, u.2, hW3, hR', by rw [hl3, hl2]; exact h95, by rw [hl3, hl2]; exact hln, hP3, hz3, hS3⟩
  refine lv_iload hx hb (by decide +kernel) (lv_at hl 1 rfl) ?_
  refine lv_icmp_eq (off := 5) (tgt := 361) hx hb (by decide +kernel) (by decide) (fun q => ?_) (fun q => ?_)
  · refine lv_iload hx hb (by decide +kernel) (lv_at hl 1 rfl) ?_
    refine lv_if_ne (off := 15) (tgt := 378) hx hb (by decide +kernel) (by decide) (fun q => ?_) (fun q => ?_)
    · refine lv_goto (off := 1254) (tgt := 1632) hx hb (by decide +kernel) (by decide) ?_
      exact kk H3 locs3 ls hA3 hl0
    · have hu : u.1 0 = r.toInt64 := by
        rcases hpost with ⟨-, -, q1⟩ | ⟨-, q1⟩
        · exact q1
        · rw [q1] at q
          exact absurd q (by decide)
      refine lv_aload_n (k := 3) hx hb (by decide +kernel) rfl (lv_at hl0 3 rfl) ?_
      refine lv_iconst (n := 0) (v := 0) hx hb (by decide +kernel) (by decide) ?_
      refine va_lald hx hb C.2.2.1 hP3 95 0 (lh_at (by rw [hl3, hl2]; exact h95)) rfl (i := 0) (by unfold vp_in; decide) (by decide +kernel) ?_
      refine lv_iload hx hb (by decide +kernel) (lv_at hl 0 rfl) ?_
      refine lv_i2l (v := r.toInt64) hx hb (by decide +kernel) rfl ?_
      rw [show (0 : Int32).toNatClampNeg = 0 from by decide, hu]
      refine ll_lcmp hx hb (by decide +kernel) ?_
      refine lv_if_eq (off := 5) (tgt := 378) hx hb (by decide +kernel) (by decide) (fun q => ?_) (fun q => absurd rfl q)
      refine lv_goto (off := 1254) (tgt := 1632) hx hb (by decide +kernel) (by decide) ?_
      exact kk H3 locs3 ls hA3 hl0
  · refine absurd ?_ q
    rcases e3 with ⟨g1, g2⟩ | ⟨g1, g2⟩ <;> rcases hpost with ⟨g3, g4, -⟩ | ⟨g3, g4⟩
    · rw [g2, g4]
    · exact absurd g1 g3
    · exact absurd g3 g1
    · rw [g2, g4]
set_option maxHeartbeats 4000000 in
theorem ll_case6 (C : ll_C p l s m meth c b L xs D cA cL sa) (hL : L ≤ 2560) (hn5 : 5 * n + 5 ≤ L) (hRf : R.frames = 2048) (hRl : R.locals = 84000) (hc : cells + 1 ≤ R.cells) (hs : slots + 6 ≤ R.slots) (hA : ll_A s D cA cL n H locs) (hl : lv_has ls 7 (ll_v s b n))
    (kk : ∀ (H1 : Heap) (locs1 : List Loc) (ls1 : Array Slot), ll_A s D cA cL (n + 1) H1 locs1 → lv_has ls1 7 (ll_v s b n) → W p l e R s m #[Value.ref b] below meth c H1 locs1 (cells + 1) (slots + 6) Q (F0 m 1632 ls1 [])) : W p l e R s m #[Value.ref b] below meth c H locs cells slots Q (F0 m 381 ls []) := by
  obtain ⟨h, σ, τ, P, Q0, f, g, hW, hR, h95, hln, hP, hz, hS⟩ := hA
  obtain ⟨good, hgd⟩ : ∃ good : Prop, good = ((∃ b, f_X3_hasRider (xs (5 * n + 1)) σ = some (b, σ) ∧ ¬ b = 0) ∧ ¬ xs (5 * n + 2) < 0 ∧ xs (5 * n + 2) ≤ 5) := ⟨_, rfl⟩
  obtain ⟨r, τ', P', Q', hres, e2, e3, hR'⟩ : ∃ (r : Int32) (τ' : jT) (P' Q' : Nat), (good → f_X10_riderGood (xs (5 * n + 1)) (xs (5 * n + 2)) σ = some (r, σ)) ∧ f_X11_rider (xs (5 * n + 1)) (xs (5 * n + 2)) τ = some (r, τ') ∧ ((good ∧ τ'.1 4172 = 0) ∨ (¬ good ∧ τ'.1 4172 = 1)) ∧ rAll (n + 1) P' Q' σ τ' := by
    rw [hgd]
    rcases eq_rider hR (xs (5 * n + 1)) (xs (5 * n + 2)) with ⟨hg, r, e1, τ', P', Q', e2, e3, hR'⟩ | ⟨hg, r, τ', P', Q', e2, e3, hR'⟩
    · exact ⟨r, τ', P', Q', fun _ => e1, e2, Or.inl ⟨hg, e3⟩, hR'⟩
    · exact ⟨r, τ', P', Q', fun z => absurd z hg, e2, Or.inr ⟨hg, e3⟩, hR'⟩
  obtain ⟨h2, hsp2, hl2, hW2⟩ := sp_m hW (t_X11_rider (lsM_ok hW) (d := 0) ⟨(r, τ'), e2, rfl, _, rfl⟩)
  obtain ⟨h3, hsp3, hl3, hW3⟩ := sp_m hW2 (t_X11_thrown (lsM_ok hW2) (d := 0) (rd := h2.2.1 4173) ⟨(τ'.1 4172, τ'), rfl, rfl, _, rfl⟩)
  have hx := C.1.1
  have hb := C.1.2.1
  have hgi : GoodIn lw_g (va_wsS "OfDifferentMindsLaw" 57 lh_y_rider lh_w_rider) := ll_gi (by decide +kernel)
  refine lv_aload_n (k := 1) hx hb (by decide +kernel) rfl (lv_at hl 1 rfl) ?_
  refine ll_arg C hS hl hL 1 (by decide) hn5 (by decide +kernel) ?_
  refine ll_arg C hS hl hL 2 (by decide) hn5 (by decide +kernel) ?_
  refine lv_aload_n (k := 3) hx hb (by decide +kernel) rfl (lv_at hl 3 rfl) ?_
  refine va_calli (mc := 1) (ms := 6) (vx_runSW (index := 57) (As := [.ref s.heap.size, .int (xs (5 * n + 1)), .int (xs (5 * n + 2)), .ref (s.heap.size + 95)]) (rest := []) (Ts := lw_g) ⟨hx, hb, (ll_c C).2.2.1, (ll_c C).2.2.2.1, (ll_c C).2.2.2.2.1⟩ (lh_rider C.2.2.2.2 (base := s.heap.size) (D := D) (cA := cA) (cL := cL) (f := f) (g := g) (sa := sa) hW h95 hln hgd hres) (vx_cwSW 4 (ll_c C).2.2.2.2.1 hgi rfl rfl rfl (by decide +kernel) ⟨by rw [hRf]; decide, by rw [hRl]; decide⟩) ⟨lh_blind, fun U hU hWm => ⟨rfl, ⟨⟨by rw [hU]; exact hP, jx_KK.moved hWm.alike C.2.1, by rw [hU]; exact hz⟩, nx_P.warm hWm (fun a q1 q2 => by rw [hU]; exact hS.2.1 a q1 q2) C.2.2.2.1⟩, va_K.moved hWm.alike C.2.2.1⟩⟩ rfl rfl hl.1 rfl (lv_room (Nat.le_of_ble_eq_true rfl)) (show decode code 395 = .ok (.invokestatic 57, 3) by decide +kernel) ⟨hc, hs⟩) hS (fun _ _ z => z) (fun _ z => z) ?_
  intro k u t H1 locs1 ht _ hpost hB hz1 _ hS1
  obtain ⟨hP1, -, hz1⟩ := hB
  rw [ht] at hP1 hz1
  refine lv_istore (lv' := (5, .int k) :: ll_v s b n) hx hb (by decide +kernel) hl (by decide) rfl (fun ls hl => ?_)
  have hl0 : lv_has ls 7 (ll_v s b n) := lv_sub hl [1, 2, 3, 4, 5] rfl
  refine lv_aload_n (k := 2) hx hb (by decide +kernel) rfl (lv_at hl0 2 rfl) ?_
  refine ll_arg C hS1 hl0 hL 1 (by decide) hn5 (by decide +kernel) ?_
  refine ll_arg C hS1 hl0 hL 2 (by decide) hn5 (by decide +kernel) ?_
  refine lc_callV (O := lh_O cL u.1 u.2) (idx := 59) (o := 65) (as := [.int (xs (5 * n + 1)), .int (xs (5 * n + 2))]) (rest := []) (ll_c C) jm_at238 rfl hsp2 hl2 (hW.1 65 (by decide)) ((ll_c C).2.2.2.2.1 _ (by decide +kernel)) (by decide +kernel) (by rw [hRf]; decide) (by rw [hRl]; decide) hc hs hl0.1 (Nat.le_of_ble_eq_true rfl) hP1 hz1 hS1 rfl ?_
  intro H2 locs2 hP2 hz2 hS2
  refine lv_istore (lv' := (6, .int r) :: (5, .int k) :: ll_v s b n) hx hb (by decide +kernel) hl (by decide) rfl (fun ls hl => ?_)
  have hl0 : lv_has ls 7 (ll_v s b n) := lv_sub hl [2, 3, 4, 5, 6] rfl
  refine lv_aload_n (k := 2) hx hb (by decide +kernel) rfl (lv_at hl0 2 rfl) ?_
  refine lc_callV (O := lh_O cL u.1 u.2) (idx := 54) (o := 65) (as := []) (rest := []) (ll_c C) jm_at201 rfl hsp3 hl3 (hW2.1 65 (by decide)) ((ll_c C).2.2.2.2.1 _ (by decide +kernel)) (by decide +kernel) (by rw [hRf]; decide) (by rw [hRl]; decide) hc hs hl0.1 (Nat.le_of_ble_eq_true rfl) hP2 hz2 hS2 rfl ?_
  intro H3 locs3 hP3 hz3 hS3
  have hA3 : ll_A s D cA cL (n + 1) H3 locs3 := ⟨h3, σ, τ', P', Q', u.1, u.2, hW3, hR', by rw [hl3, hl2]; exact h95, by rw [hl3, hl2]; exact hln, hP3, hz3, hS3⟩
  refine lv_iload hx hb (by decide +kernel) (lv_at hl 1 rfl) ?_
  refine lv_icmp_eq (off := 5) (tgt := 429) hx hb (by decide +kernel) (by decide) (fun q => ?_) (fun q => ?_)
  · refine lv_iload hx hb (by decide +kernel) (lv_at hl 1 rfl) ?_
    refine lv_if_ne (off := 15) (tgt := 446) hx hb (by decide +kernel) (by decide) (fun q => ?_) (fun q => ?_)
    · refine lv_goto (off := 1186) (tgt := 1632) hx hb (by decide +kernel) (by decide) ?_
      exact kk H3 locs3 ls hA3 hl0
    · have hu : u.1 0 = r.toInt64 := by
        rcases hpost with ⟨-, -, q1⟩ | ⟨-, q1⟩
        · exact q1
        · rw [q1] at q
          exact absurd q (by decide)
      refine lv_aload_n (k := 3) hx hb (by decide +kernel) rfl (lv_at hl0 3 rfl) ?_
      refine lv_iconst (n := 0) (v := 0) hx hb (by decide +kernel) (by decide) ?_
      refine va_lald hx hb C.2.2.1 hP3 95 0 (lh_at (by rw [hl3, hl2]; exact h95)) rfl (i := 0) (by unfold vp_in; decide) (by decide +kernel) ?_
      refine lv_iload hx hb (by decide +kernel) (lv_at hl 0 rfl) ?_
      refine lv_i2l (v := r.toInt64) hx hb (by decide +kernel) rfl ?_
      rw [show (0 : Int32).toNatClampNeg = 0 from by decide, hu]
      refine ll_lcmp hx hb (by decide +kernel) ?_
      refine lv_if_eq (off := 5) (tgt := 446) hx hb (by decide +kernel) (by decide) (fun q => ?_) (fun q => absurd rfl q)
      refine lv_goto (off := 1186) (tgt := 1632) hx hb (by decide +kernel) (by decide) ?_
      exact kk H3 locs3 ls hA3 hl0
  · refine absurd ?_ q
    rcases e3 with ⟨g1, g2⟩ | ⟨g1, g2⟩ <;> rcases hpost with ⟨g3, g4, -⟩ | ⟨g3, g4⟩
    · rw [g2, g4]
    · exact absurd g1 g3
    · exact absurd g3 g1
    · rw [g2, g4]
set_option maxHeartbeats 4000000 in
theorem ll_case42 (C : ll_C p l s m meth c b L xs D cA cL sa) (hL : L ≤ 2560) (hn5 : 5 * n + 5 ≤ L) (hRf : R.frames = 2048) (hRl : R.locals = 84000) (hc : cells + 1 ≤ R.cells) (hs : slots + 6 ≤ R.slots) (hA : ll_A s D cA cL n H locs) (hl : lv_has ls 7 (ll_v s b n))
    (kk : ∀ (H1 : Heap) (locs1 : List Loc) (ls1 : Array Slot), ll_A s D cA cL (n + 1) H1 locs1 → lv_has ls1 7 (ll_v s b n) → W p l e R s m #[Value.ref b] below meth c H1 locs1 (cells + 1) (slots + 6) Q (F0 m 1632 ls1 [])) : W p l e R s m #[Value.ref b] below meth c H locs cells slots Q (F0 m 1576 ls []) := by
  obtain ⟨h, σ, τ, P, Q0, f, g, hW, hR, h95, hln, hP, hz, hS⟩ := hA
  obtain ⟨good, hgd⟩ : ∃ good : Prop, good = (¬ xs (5 * n + 1) < 0 ∧ xs (5 * n + 1) < σ.1 3009) := ⟨_, rfl⟩
  obtain ⟨r, τ', P', Q', hres, e2, e3, hR'⟩ : ∃ (r : Int32) (τ' : jT) (P' Q' : Nat), (good → f_X10_rowGood (xs (5 * n + 1)) σ = some (r, σ)) ∧ f_X11_row (xs (5 * n + 1)) τ = some (r, τ') ∧ ((good ∧ τ'.1 4172 = 0) ∨ (¬ good ∧ τ'.1 4172 = 1)) ∧ rAll (n + 1) P' Q' σ τ' := by
    rw [hgd]
    rcases eq_row hR (xs (5 * n + 1)) with ⟨hg, r, e1, τ', P', Q', e2, e3, hR'⟩ | ⟨hg, r, τ', P', Q', e2, e3, hR'⟩
    · exact ⟨r, τ', P', Q', fun _ => e1, e2, Or.inl ⟨hg, e3⟩, hR'⟩
    · exact ⟨r, τ', P', Q', fun z => absurd z hg, e2, Or.inr ⟨hg, e3⟩, hR'⟩
  obtain ⟨h2, hsp2, hl2, hW2⟩ := sp_m hW (t_X11_row (lsM_ok hW) (d := 0) ⟨(r, τ'), e2, rfl, _, rfl⟩)
  obtain ⟨h3, hsp3, hl3, hW3⟩ := sp_m hW2 (t_X11_thrown (lsM_ok hW2) (d := 0) (rd := h2.2.1 4173) ⟨(τ'.1 4172, τ'), rfl, rfl, _, rfl⟩)
  have hx := C.1.1
  have hb := C.1.2.1
  have hgi : GoodIn lw_g (va_wsS "OfDifferentMindsLaw" 202 lh_y_row lh_w_row) := ll_gi (by decide +kernel)
  refine lv_aload_n (k := 1) hx hb (by decide +kernel) rfl (lv_at hl 1 rfl) ?_
  refine ll_arg C hS hl hL 1 (by decide) hn5 (by decide +kernel) ?_
  refine lv_aload_n (k := 3) hx hb (by decide +kernel) rfl (lv_at hl 3 rfl) ?_
  refine va_calli (mc := 1) (ms := 6) (vx_runSW (index := 202) (As := [.ref s.heap.size, .int (xs (5 * n + 1)), .ref (s.heap.size + 95)]) (rest := []) (Ts := lw_g) ⟨hx, hb, (ll_c C).2.2.1, (ll_c C).2.2.2.1, (ll_c C).2.2.2.2.1⟩ (lh_row C.2.2.2.2 (base := s.heap.size) (D := D) (cA := cA) (cL := cL) (f := f) (g := g) (sa := sa) hW h95 hln hgd hres) (vx_cwSW 3 (ll_c C).2.2.2.2.1 hgi rfl rfl rfl (by decide +kernel) ⟨by rw [hRf]; decide, by rw [hRl]; decide⟩) ⟨lh_blind, fun U hU hWm => ⟨rfl, ⟨⟨by rw [hU]; exact hP, jx_KK.moved hWm.alike C.2.1, by rw [hU]; exact hz⟩, nx_P.warm hWm (fun a q1 q2 => by rw [hU]; exact hS.2.1 a q1 q2) C.2.2.2.1⟩, va_K.moved hWm.alike C.2.2.1⟩⟩ rfl rfl hl.1 rfl (lv_room (Nat.le_of_ble_eq_true rfl)) (show decode code 1584 = .ok (.invokestatic 202, 3) by decide +kernel) ⟨hc, hs⟩) hS (fun _ _ z => z) (fun _ z => z) ?_
  intro k u t H1 locs1 ht _ hpost hB hz1 _ hS1
  obtain ⟨hP1, -, hz1⟩ := hB
  rw [ht] at hP1 hz1
  refine lv_istore (lv' := (5, .int k) :: ll_v s b n) hx hb (by decide +kernel) hl (by decide) rfl (fun ls hl => ?_)
  have hl0 : lv_has ls 7 (ll_v s b n) := lv_sub hl [1, 2, 3, 4, 5] rfl
  refine lv_aload_n (k := 2) hx hb (by decide +kernel) rfl (lv_at hl0 2 rfl) ?_
  refine ll_arg C hS1 hl0 hL 1 (by decide) hn5 (by decide +kernel) ?_
  refine lc_callV (O := lh_O cL u.1 u.2) (idx := 205) (o := 65) (as := [.int (xs (5 * n + 1))]) (rest := []) (ll_c C) jm_at308 rfl hsp2 hl2 (hW.1 65 (by decide)) ((ll_c C).2.2.2.2.1 _ (by decide +kernel)) (by decide +kernel) (by rw [hRf]; decide) (by rw [hRl]; decide) hc hs hl0.1 (Nat.le_of_ble_eq_true rfl) hP1 hz1 hS1 rfl ?_
  intro H2 locs2 hP2 hz2 hS2
  refine lv_istore (lv' := (6, .int r) :: (5, .int k) :: ll_v s b n) hx hb (by decide +kernel) hl (by decide) rfl (fun ls hl => ?_)
  have hl0 : lv_has ls 7 (ll_v s b n) := lv_sub hl [2, 3, 4, 5, 6] rfl
  refine lv_aload_n (k := 2) hx hb (by decide +kernel) rfl (lv_at hl0 2 rfl) ?_
  refine lc_callV (O := lh_O cL u.1 u.2) (idx := 54) (o := 65) (as := []) (rest := []) (ll_c C) jm_at201 rfl hsp3 hl3 (hW2.1 65 (by decide)) ((ll_c C).2.2.2.2.1 _ (by decide +kernel)) (by decide +kernel) (by rw [hRf]; decide) (by rw [hRl]; decide) hc hs hl0.1 (Nat.le_of_ble_eq_true rfl) hP2 hz2 hS2 rfl ?_
  intro H3 locs3 hP3 hz3 hS3
  have hA3 : ll_A s D cA cL (n + 1) H3 locs3 := ⟨h3, σ, τ', P', Q', u.1, u.2, hW3, hR', by rw [hl3, hl2]; exact h95, by rw [hl3, hl2]; exact hln, hP3, hz3, hS3⟩
  refine lv_iload hx hb (by decide +kernel) (lv_at hl 1 rfl) ?_
  refine lv_icmp_eq (off := 5) (tgt := 1612) hx hb (by decide +kernel) (by decide) (fun q => ?_) (fun q => ?_)
  · refine lv_iload hx hb (by decide +kernel) (lv_at hl 1 rfl) ?_
    refine lv_if_ne (off := 15) (tgt := 1629) hx hb (by decide +kernel) (by decide) (fun q => ?_) (fun q => ?_)
    · refine lv_goto (off := 3) (tgt := 1632) hx hb (by decide +kernel) (by decide) ?_
      exact kk H3 locs3 ls hA3 hl0
    · have hu : u.1 0 = r.toInt64 := by
        rcases hpost with ⟨-, -, q1⟩ | ⟨-, q1⟩
        · exact q1
        · rw [q1] at q
          exact absurd q (by decide)
      refine lv_aload_n (k := 3) hx hb (by decide +kernel) rfl (lv_at hl0 3 rfl) ?_
      refine lv_iconst (n := 0) (v := 0) hx hb (by decide +kernel) (by decide) ?_
      refine va_lald hx hb C.2.2.1 hP3 95 0 (lh_at (by rw [hl3, hl2]; exact h95)) rfl (i := 0) (by unfold vp_in; decide) (by decide +kernel) ?_
      refine lv_iload hx hb (by decide +kernel) (lv_at hl 0 rfl) ?_
      refine lv_i2l (v := r.toInt64) hx hb (by decide +kernel) rfl ?_
      rw [show (0 : Int32).toNatClampNeg = 0 from by decide, hu]
      refine ll_lcmp hx hb (by decide +kernel) ?_
      refine lv_if_eq (off := 5) (tgt := 1629) hx hb (by decide +kernel) (by decide) (fun q => ?_) (fun q => absurd rfl q)
      refine lv_goto (off := 3) (tgt := 1632) hx hb (by decide +kernel) (by decide) ?_
      exact kk H3 locs3 ls hA3 hl0
  · refine absurd ?_ q
    rcases e3 with ⟨g1, g2⟩ | ⟨g1, g2⟩ <;> rcases hpost with ⟨g3, g4, -⟩ | ⟨g3, g4⟩
    · rw [g2, g4]
    · exact absurd g1 g3
    · exact absurd g3 g1
    · rw [g2, g4]
end LLT
