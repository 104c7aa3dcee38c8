/-! ===== the law's plain calls ===== -/
section LLB
variable {p : Program} {l : Launch} {e : Env} {R : Room} {s : State} {m : MethodId} {below : List Frame} {meth : Method} {c : Code} {b L : Nat} {xs : Nat → Int32} {D : va_G} {cA : Nat → ClassId} {cL : ClassId} {sa : Nat → Nat} {Q : State → Prop} {cells slots pc : Nat} {H : Heap} {locs : List Loc} {ls : Array Slot} {rest : List Value} {n : Nat}
theorem ll_case0 (C : ll_C p l s m meth c b L xs D cA cL sa) (hL : L ≤ 2560) (hn5 : 5 * n + 5 ≤ L) (hRf : R.frames = 2048) (hRl : R.locals = 84000) (hc : cells ≤ R.cells) (hs : slots ≤ R.slots) (hA : ll_A s D cA cL n H locs) (hl : lv_has ls 7 (ll_v s b n))
    (kk : ∀ (H1 : Heap) (locs1 : List Loc), ll_A s D cA cL (n + 1) H1 locs1 → W p l e R s m #[Value.ref b] below meth c H1 locs1 cells slots Q (F0 m 1632 ls [])) : W p l e R s m #[Value.ref b] below meth c H locs cells slots Q (F0 m 224 ls []) := by
  obtain ⟨h, σ, τ, P, Q0, f, g, hW, hR, h95, hln, hP, hz, hS⟩ := hA
  obtain ⟨r, σ', τ', P', Q', e1, e2, -, hR'⟩ := eq_sign (by omega) hR (xs (5 * n + 1))
  obtain ⟨h1, hsp1, hl1, hW1⟩ := sp_c hW (t_X10_sign (lsC_ok hW) (d := 0) ⟨(r, σ'), e1, rfl, rfl⟩)
  obtain ⟨h2, hsp2, hl2, hW2⟩ := sp_m hW1 (t_X11_sign (lsM_ok hW1) (d := 0) ⟨(r, τ'), e2, rfl, _, rfl⟩)
  have hx := C.1.1
  have hb := C.1.2.1
  refine lv_aload_n (k := 1) hx hb (by decide +kernel) rfl (lv_at hl 1 rfl) ?_
  refine ll_arg C hS hl hL 1 (by decide) hn5 (by decide +kernel) ?_
  refine lc_callV (idx := 26) (o := 0) (as := [.int (xs (5 * n + 1))]) (rest := []) (ll_c C) jm_at129 rfl hsp1 hl1 (hW.1 0 (by decide)) ((ll_c C).2.2.2.2.1 _ (by decide +kernel)) (by decide +kernel) (by rw [hRf]; decide) (by rw [hRl]; decide) hc hs hl.1 (Nat.le_of_ble_eq_true rfl) hP hz hS rfl ?_
  intro H1 locs1 hP1 hz1 hS1
  refine lv_aload_n (k := 2) hx hb (by decide +kernel) rfl (lv_at hl 2 rfl) ?_
  refine ll_arg C hS1 hl hL 1 (by decide) hn5 (by decide +kernel) ?_
  refine lc_callV (idx := 29) (o := 65) (as := [.int (xs (5 * n + 1))]) (rest := [.int r]) (ll_c C) jm_at211 rfl hsp2 hl2 (hW1.1 65 (by decide)) ((ll_c C).2.2.2.2.1 _ (by decide +kernel)) (by decide +kernel) (by rw [hRf]; decide) (by rw [hRl]; decide) hc hs hl.1 (Nat.le_of_ble_eq_true rfl) hP1 hz1 hS1 rfl ?_
  intro H2 locs2 hP2 hz2 hS2
  refine lv_icmp_eq (off := 1388) (tgt := 1632) hx hb (by decide +kernel) (by decide) (fun _ => ?_) (fun q => absurd rfl q)
  exact kk H2 locs2 ⟨h2, σ', τ', P', Q', f, g, hW2, hR', by rw [hl2, hl1]; exact h95, by rw [hl2, hl1]; exact hln, hP2, hz2, hS2⟩
theorem ll_case1 (C : ll_C p l s m meth c b L xs D cA cL sa) (hL : L ≤ 2560) (hn5 : 5 * n + 5 ≤ L) (hRf : R.frames = 2048) (hRl : R.locals = 84000) (hc : cells ≤ R.cells) (hs : slots ≤ R.slots) (hA : ll_A s D cA cL n H locs) (hl : lv_has ls 7 (ll_v s b n))
    (kk : ∀ (H1 : Heap) (locs1 : List Loc), ll_A s D cA cL (n + 1) H1 locs1 → W p l e R s m #[Value.ref b] below meth c H1 locs1 cells slots Q (F0 m 1632 ls [])) : W p l e R s m #[Value.ref b] below meth c H locs cells slots Q (F0 m 249 ls []) := by
  obtain ⟨h, σ, τ, P, Q0, f, g, hW, hR, h95, hln, hP, hz, hS⟩ := hA
  obtain ⟨r, σ', τ', P', Q', e1, e2, -, hR'⟩ := eq_end (by omega) hR (xs (5 * n + 1))
  obtain ⟨h1, hsp1, hl1, hW1⟩ := sp_c hW (t_X10_end (lsC_ok hW) (d := 0) ⟨(r, σ'), e1, rfl, rfl⟩)
  obtain ⟨h2, hsp2, hl2, hW2⟩ := sp_m hW1 (t_X11_end (lsM_ok hW1) (d := 0) ⟨(r, τ'), e2, rfl, _, rfl⟩)
  have hx := C.1.1
  have hb := C.1.2.1
  refine lv_aload_n (k := 1) hx hb (by decide +kernel) rfl (lv_at hl 1 rfl) ?_
  refine ll_arg C hS hl hL 1 (by decide) hn5 (by decide +kernel) ?_
  refine lc_callV (idx := 30) (o := 0) (as := [.int (xs (5 * n + 1))]) (rest := []) (ll_c C) jm_at130 rfl hsp1 hl1 (hW.1 0 (by decide)) ((ll_c C).2.2.2.2.1 _ (by decide +kernel)) (by decide +kernel) (by rw [hRf]; decide) (by rw [hRl]; decide) hc hs hl.1 (Nat.le_of_ble_eq_true rfl) hP hz hS rfl ?_
  intro H1 locs1 hP1 hz1 hS1
  refine lv_aload_n (k := 2) hx hb (by decide +kernel) rfl (lv_at hl 2 rfl) ?_
  refine ll_arg C hS1 hl hL 1 (by decide) hn5 (by decide +kernel) ?_
  refine lc_callV (idx := 34) (o := 65) (as := [.int (xs (5 * n + 1))]) (rest := [.int r]) (ll_c C) jm_at212 rfl hsp2 hl2 (hW1.1 65 (by decide)) ((ll_c C).2.2.2.2.1 _ (by decide +kernel)) (by decide +kernel) (by rw [hRf]; decide) (by rw [hRl]; decide) hc hs hl.1 (Nat.le_of_ble_eq_true rfl) hP1 hz1 hS1 rfl ?_
  intro H2 locs2 hP2 hz2 hS2
  refine lv_icmp_eq (off := 1363) (tgt := 1632) hx hb (by decide +kernel) (by decide) (fun _ => ?_) (fun q => absurd rfl q)
  exact kk H2 locs2 ⟨h2, σ', τ', P', Q', f, g, hW2, hR', by rw [hl2, hl1]; exact h95, by rw [hl2, hl1]; exact hln, hP2, hz2, hS2⟩
theorem ll_case2 (C : ll_C p l s m meth c b L xs D cA cL sa) (hL : L ≤ 2560) (hn5 : 5 * n + 5 ≤ L) (hRf : R.frames = 2048) (hRl : R.locals = 84000) (hc : cells ≤ R.cells) (hs : slots ≤ R.slots) (hA : ll_A s D cA cL n H locs) (hl : lv_has ls 7 (ll_v s b n))
    (kk : ∀ (H1 : Heap) (locs1 : List Loc), ll_A s D cA cL (n + 1) H1 locs1 → W p l e R s m #[Value.ref b] below meth c H1 locs1 cells slots Q (F0 m 1632 ls [])) : W p l e R s m #[Value.ref b] below meth c H locs cells slots Q (F0 m 274 ls []) := by
  obtain ⟨h, σ, τ, P, Q0, f, g, hW, hR, h95, hln, hP, hz, hS⟩ := hA
  obtain ⟨r, σ', τ', P', Q', e1, e2, -, hR'⟩ := eq_roads (by omega) hR 
  obtain ⟨h1, hsp1, hl1, hW1⟩ := sp_c hW (t_X10_roads (lsC_ok hW) (d := 0) ⟨(r, σ'), e1, rfl, rfl⟩)
  obtain ⟨h2, hsp2, hl2, hW2⟩ := sp_m hW1 (t_X11_roads (lsM_ok hW1) (d := 0) ⟨(r, τ'), e2, fun rd => ⟨rfl, rd, rfl⟩⟩)
  have hx := C.1.1
  have hb := C.1.2.1
  refine lv_aload_n (k := 1) hx hb (by decide +kernel) rfl (lv_at hl 1 rfl) ?_
  refine lc_callV (idx := 35) (o := 0) (as := []) (rest := []) (ll_c C) jm_at131 rfl hsp1 hl1 (hW.1 0 (by decide)) ((ll_c C).2.2.2.2.1 _ (by decide +kernel)) (by decide +kernel) (by rw [hRf]; decide) (by rw [hRl]; decide) hc hs hl.1 (Nat.le_of_ble_eq_true rfl) hP hz hS rfl ?_
  intro H1 locs1 hP1 hz1 hS1
  refine lv_aload_n (k := 2) hx hb (by decide +kernel) rfl (lv_at hl 2 rfl) ?_
  refine lc_callV (idx := 39) (o := 65) (as := []) (rest := [.int r]) (ll_c C) jm_at222 rfl hsp2 hl2 (hW1.1 65 (by decide)) ((ll_c C).2.2.2.2.1 _ (by decide +kernel)) (by decide +kernel) (by rw [hRf]; decide) (by rw [hRl]; decide) hc hs hl.1 (Nat.le_of_ble_eq_true rfl) hP1 hz1 hS1 rfl ?_
  intro H2 locs2 hP2 hz2 hS2
  refine lv_icmp_eq (off := 1350) (tgt := 1632) hx hb (by decide +kernel) (by decide) (fun _ => ?_) (fun q => absurd rfl q)
  exact kk H2 locs2 ⟨h2, σ', τ', P', Q', f, g, hW2, hR', by rw [hl2, hl1]; exact h95, by rw [hl2, hl1]; exact hln, hP2, hz2, hS2⟩
theorem ll_case3 (C : ll_C p l s m meth c b L xs D cA cL sa) (hL : L ≤ 2560) (hn5 : 5 * n + 5 ≤ L) (hRf : R.frames = 2048) (hRl : R.locals = 84000) (hc : cells ≤ R.cells) (hs : slots ≤ R.slots) (hA : ll_A s D cA cL n H locs) (hl : lv_has ls 7 (ll_v s b n))
    (kk : ∀ (H1 : Heap) (locs1 : List Loc), ll_A s D cA cL (n + 1) H1 locs1 → W p l e R s m #[Value.ref b] below meth c H1 locs1 cells slots Q (F0 m 1632 ls [])) : W p l e R s m #[Value.ref b] below meth c H locs cells slots Q (F0 m 287 ls []) := by
  obtain ⟨h, σ, τ, P, Q0, f, g, hW, hR, h95, hln, hP, hz, hS⟩ := hA
  obtain ⟨r, σ', τ', P', Q', e1, e2, -, hR'⟩ := eq_riders (by omega) hR 
  obtain ⟨h1, hsp1, hl1, hW1⟩ := sp_c hW (t_X10_riders (lsC_ok hW) (d := 0) ⟨(r, σ'), e1, rfl, rfl⟩)
  obtain ⟨h2, hsp2, hl2, hW2⟩ := sp_m hW1 (t_X11_riders (lsM_ok hW1) (d := 0) ⟨(r, τ'), e2, fun rd => ⟨rfl, rd, rfl⟩⟩)
  have hx := C.1.1
  have hb := C.1.2.1
  refine lv_aload_n (k := 1) hx hb (by decide +kernel) rfl (lv_at hl 1 rfl) ?_
  refine lc_callV (idx := 40) (o := 0) (as := []) (rest := []) (ll_c C) jm_at132 rfl hsp1 hl1 (hW.1 0 (by decide)) ((ll_c C).2.2.2.2.1 _ (by decide +kernel)) (by decide +kernel) (by rw [hRf]; decide) (by rw [hRl]; decide) hc hs hl.1 (Nat.le_of_ble_eq_true rfl) hP hz hS rfl ?_
  intro H1 locs1 hP1 hz1 hS1
  refine lv_aload_n (k := 2) hx hb (by decide +kernel) rfl (lv_at hl 2 rfl) ?_
  refine lc_callV (idx := 43) (o := 65) (as := []) (rest := [.int r]) (ll_c C) jm_at224 rfl hsp2 hl2 (hW1.1 65 (by decide)) ((ll_c C).2.2.2.2.1 _ (by decide +kernel)) (by decide +kernel) (by rw [hRf]; decide) (by rw [hRl]; decide) hc hs hl.1 (Nat.le_of_ble_eq_true rfl) hP1 hz1 hS1 rfl ?_
  intro H2 locs2 hP2 hz2 hS2
  refine lv_icmp_eq (off := 1337) (tgt := 1632) hx hb (by decide +kernel) (by decide) (fun _ => ?_) (fun q => absurd rfl q)
  exact kk H2 locs2 ⟨h2, σ', τ', P', Q', f, g, hW2, hR', by rw [hl2, hl1]; exact h95, by rw [hl2, hl1]; exact hln, hP2, hz2, hS2⟩
theorem ll_case4 (C : ll_C p l s m meth c b L xs D cA cL sa) (hL : L ≤ 2560) (hn5 : 5 * n + 5 ≤ L) (hRf : R.frames = 2048) (hRl : R.locals = 84000) (hc : cells ≤ R.cells) (hs : slots ≤ R.slots) (hA : ll_A s D cA cL n H locs) (hl : lv_has ls 7 (ll_v s b n))
    (kk : ∀ (H1 : Heap) (locs1 : List Loc), ll_A s D cA cL (n + 1) H1 locs1 → W p l e R s m #[Value.ref b] below meth c H1 locs1 cells slots Q (F0 m 1632 ls [])) : W p l e R s m #[Value.ref b] below meth c H locs cells slots Q (F0 m 300 ls []) := by
  obtain ⟨h, σ, τ, P, Q0, f, g, hW, hR, h95, hln, hP, hz, hS⟩ := hA
  obtain ⟨r, σ', τ', P', Q', e1, e2, -, hR'⟩ := eq_rule (by omega) hR 
  obtain ⟨h1, hsp1, hl1, hW1⟩ := sp_c hW (t_X10_rule (lsC_ok hW) (d := 0) ⟨(r, σ'), e1, rfl, rfl⟩)
  obtain ⟨h2, hsp2, hl2, hW2⟩ := sp_m hW1 (t_X11_rule (lsM_ok hW1) (d := 0) ⟨(r, τ'), e2, fun rd => ⟨rfl, rd, rfl⟩⟩)
  have hx := C.1.1
  have hb := C.1.2.1
  refine lv_aload_n (k := 1) hx hb (by decide +kernel) rfl (lv_at hl 1 rfl) ?_
  refine lc_callV (idx := 44) (o := 0) (as := []) (rest := []) (ll_c C) jm_at134 rfl hsp1 hl1 (hW.1 0 (by decide)) ((ll_c C).2.2.2.2.1 _ (by decide +kernel)) (by decide +kernel) (by rw [hRf]; decide) (by rw [hRl]; decide) hc hs hl.1 (Nat.le_of_ble_eq_true rfl) hP hz hS rfl ?_
  intro H1 locs1 hP1 hz1 hS1
  refine lv_aload_n (k := 2) hx hb (by decide +kernel) rfl (lv_at hl 2 rfl) ?_
  refine lc_callV (idx := 47) (o := 65) (as := []) (rest := [.int r]) (ll_c C) jm_at230 rfl hsp2 hl2 (hW1.1 65 (by decide)) ((ll_c C).2.2.2.2.1 _ (by decide +kernel)) (by decide +kernel) (by rw [hRf]; decide) (by rw [hRl]; decide) hc hs hl.1 (Nat.le_of_ble_eq_true rfl) hP1 hz1 hS1 rfl ?_
  intro H2 locs2 hP2 hz2 hS2
  refine lv_icmp_eq (off := 1324) (tgt := 1632) hx hb (by decide +kernel) (by decide) (fun _ => ?_) (fun q => absurd rfl q)
  exact kk H2 locs2 ⟨h2, σ', τ', P', Q', f, g, hW2, hR', by rw [hl2, hl1]; exact h95, by rw [hl2, hl1]; exact hln, hP2, hz2, hS2⟩
theorem ll_case7 (C : ll_C p l s m meth c b L xs D cA cL sa) (hL : L ≤ 2560) (hn5 : 5 * n + 5 ≤ L) (hRf : R.frames = 2048) (hRl : R.locals = 84000) (hc : cells ≤ R.cells) (hs : slots ≤ R.slots) (hA : ll_A s D cA cL n H locs) (hl : lv_has ls 7 (ll_v s b n))
    (kk : ∀ (H1 : Heap) (locs1 : List Loc), ll_A s D cA cL (n + 1) H1 locs1 → W p l e R s m #[Value.ref b] below meth c H1 locs1 cells slots Q (F0 m 1632 ls [])) : W p l e R s m #[Value.ref b] below meth c H locs cells slots Q (F0 m 449 ls []) := by
  obtain ⟨h, σ, τ, P, Q0, f, g, hW, hR, h95, hln, hP, hz, hS⟩ := hA
  obtain ⟨r, σ', τ', P', Q', e1, e2, -, hR'⟩ := eq_view hR (xs (5 * n + 1)) (xs (5 * n + 2))
  obtain ⟨h1, hsp1, hl1, hW1⟩ := sp_c hW (t_X10_view (lsC_ok hW) (d := 0) ⟨(r, σ'), e1, rfl, rfl⟩)
  obtain ⟨h2, hsp2, hl2, hW2⟩ := sp_m hW1 (t_X11_view (lsM_ok hW1) (d := 0) ⟨(r, τ'), e2, rfl, _, rfl⟩)
  have hx := C.1.1
  have hb := C.1.2.1
  refine lv_aload_n (k := 1) hx hb (by decide +kernel) rfl (lv_at hl 1 rfl) ?_
  refine ll_arg C hS hl hL 1 (by decide) hn5 (by decide +kernel) ?_
  refine ll_arg C hS hl hL 2 (by decide) hn5 (by decide +kernel) ?_
  refine lc_callV (idx := 60) (o := 0) (as := [.int (xs (5 * n + 1)), .int (xs (5 * n + 2))]) (rest := []) (ll_c C) jm_at139 rfl hsp1 hl1 (hW.1 0 (by decide)) ((ll_c C).2.2.2.2.1 _ (by decide +kernel)) (by decide +kernel) (by rw [hRf]; decide) (by rw [hRl]; decide) hc hs hl.1 (Nat.le_of_ble_eq_true rfl) hP hz hS rfl ?_
  intro H1 locs1 hP1 hz1 hS1
  refine lv_aload_n (k := 2) hx hb (by decide +kernel) rfl (lv_at hl 2 rfl) ?_
  refine ll_arg C hS1 hl hL 1 (by decide) hn5 (by decide +kernel) ?_
  refine ll_arg C hS1 hl hL 2 (by decide) hn5 (by decide +kernel) ?_
  refine lc_callV (idx := 63) (o := 65) (as := [.int (xs (5 * n + 1)), .int (xs (5 * n + 2))]) (rest := [.int r]) (ll_c C) jm_at239 rfl hsp2 hl2 (hW1.1 65 (by decide)) ((ll_c C).2.2.2.2.1 _ (by decide +kernel)) (by decide +kernel) (by rw [hRf]; decide) (by rw [hRl]; decide) hc hs hl.1 (Nat.le_of_ble_eq_true rfl) hP1 hz1 hS1 rfl ?_
  intro H2 locs2 hP2 hz2 hS2
  refine lv_icmp_eq (off := 1151) (tgt := 1632) hx hb (by decide +kernel) (by decide) (fun _ => ?_) (fun q => absurd rfl q)
  exact kk H2 locs2 ⟨h2, σ', τ', P', Q', f, g, hW2, hR', by rw [hl2, hl1]; exact h95, by rw [hl2, hl1]; exact hln, hP2, hz2, hS2⟩
theorem ll_case8 (C : ll_C p l s m meth c b L xs D cA cL sa) (hL : L ≤ 2560) (hn5 : 5 * n + 5 ≤ L) (hRf : R.frames = 2048) (hRl : R.locals = 84000) (hc : cells ≤ R.cells) (hs : slots ≤ R.slots) (hA : ll_A s D cA cL n H locs) (hl : lv_has ls 7 (ll_v s b n))
    (kk : ∀ (H1 : Heap) (locs1 : List Loc), ll_A s D cA cL (n + 1) H1 locs1 → W p l e R s m #[Value.ref b] below meth c H1 locs1 cells slots Q (F0 m 1632 ls [])) : W p l e R s m #[Value.ref b] below meth c H locs cells slots Q (F0 m 486 ls []) := by
  obtain ⟨h, σ, τ, P, Q0, f, g, hW, hR, h95, hln, hP, hz, hS⟩ := hA
  obtain ⟨r, σ', τ', P', Q', e1, e2, -, hR'⟩ := eq_sheet hR (xs (5 * n + 1)) (xs (5 * n + 2)) (xs (5 * n + 3)) (xs (5 * n + 4))
  obtain ⟨h1, hsp1, hl1, hW1⟩ := sp_c hW (t_X10_sheet (lsC_ok hW) (d := 0) ⟨(r, σ'), e1, rfl, rfl⟩)
  obtain ⟨h2, hsp2, hl2, hW2⟩ := sp_m hW1 (t_X11_sheet (lsM_ok hW1) (d := 0) ⟨(r, τ'), e2, rfl, _, rfl⟩)
  have hx := C.1.1
  have hb := C.1.2.1
  refine lv_aload_n (k := 1) hx hb (by decide +kernel) rfl (lv_at hl 1 rfl) ?_
  refine ll_arg C hS hl hL 1 (by decide) hn5 (by decide +kernel) ?_
  refine ll_arg C hS hl hL 2 (by decide) hn5 (by decide +kernel) ?_
  refine ll_arg C hS hl hL 3 (by decide) hn5 (by decide +kernel) ?_
  refine ll_arg C hS hl hL 4 (by decide) hn5 (by decide +kernel) ?_
  refine lc_callV (idx := 64) (o := 0) (as := [.int (xs (5 * n + 1)), .int (xs (5 * n + 2)), .int (xs (5 * n + 3)), .int (xs (5 * n + 4))]) (rest := []) (ll_c C) jm_at140 rfl hsp1 hl1 (hW.1 0 (by decide)) ((ll_c C).2.2.2.2.1 _ (by decide +kernel)) (by decide +kernel) (by rw [hRf]; decide) (by rw [hRl]; decide) hc hs hl.1 (Nat.le_of_ble_eq_true rfl) hP hz hS rfl ?_
  intro H1 locs1 hP1 hz1 hS1
  refine lv_aload_n (k := 2) hx hb (by decide +kernel) rfl (lv_at hl 2 rfl) ?_
  refine ll_arg C hS1 hl hL 1 (by decide) hn5 (by decide +kernel) ?_
  refine ll_arg C hS1 hl hL 2 (by decide) hn5 (by decide +kernel) ?_
  refine ll_arg C hS1 hl hL 3 (by decide) hn5 (by decide +kernel) ?_
  refine ll_arg C hS1 hl hL 4 (by decide) hn5 (by decide +kernel) ?_
  refine lc_callV (idx := 68) (o := 65) (as := [.int (xs (5 * n + 1)), .int (xs (5 * n + 2)), .int (xs (5 * n + 3)), .int (xs (5 * n + 4))]) (rest := [.int r]) (ll_c C) jm_at240 rfl hsp2 hl2 (hW1.1 65 (by decide)) ((ll_c C).2.2.2.2.1 _ (by decide +kernel)) (by decide +kernel) (by rw [hRf]; decide) (by rw [hRl]; decide) hc hs hl.1 (Nat.le_of_ble_eq_true rfl) hP1 hz1 hS1 rfl ?_
  intro H2 locs2 hP2 hz2 hS2
  refine lv_icmp_eq (off := 1090) (tgt := 1632) hx hb (by decide +kernel) (by decide) (fun _ => ?_) (fun q => absurd rfl q)
  exact kk H2 locs2 ⟨h2, σ', τ', P', Q', f, g, hW2, hR', by rw [hl2, hl1]; exact h95, by rw [hl2, hl1]; exact hln, hP2, hz2, hS2⟩
theorem ll_case9 (C : ll_C p l s m meth c b L xs D cA cL sa) (hL : L ≤ 2560) (hn5 : 5 * n + 5 ≤ L) (hRf : R.frames = 2048) (hRl : R.locals = 84000) (hc : cells ≤ R.cells) (hs : slots ≤ R.slots) (hA : ll_A s D cA cL n H locs) (hl : lv_has ls 7 (ll_v s b n))
    (kk : ∀ (H1 : Heap) (locs1 : List Loc), ll_A s D cA cL (n + 1) H1 locs1 → W p l e R s m #[Value.ref b] below meth c H1 locs1 cells slots Q (F0 m 1632 ls [])) : W p l e R s m #[Value.ref b] below meth c H locs cells slots Q (F0 m 547 ls []) := by
  obtain ⟨h, σ, τ, P, Q0, f, g, hW, hR, h95, hln, hP, hz, hS⟩ := hA
  obtain ⟨r, σ', τ', P', Q', e1, e2, -, hR'⟩ := eq_mount hR (xs (5 * n + 1)) (xs (5 * n + 2))
  obtain ⟨h1, hsp1, hl1, hW1⟩ := sp_c hW (t_X10_mount (lsC_ok hW) (d := 0) ⟨(r, σ'), e1, rfl, rfl⟩)
  obtain ⟨h2, hsp2, hl2, hW2⟩ := sp_m hW1 (t_X11_mount (lsM_ok hW1) (d := 0) ⟨(r, τ'), e2, rfl, _, rfl⟩)
  have hx := C.1.1
  have hb := C.1.2.1
  refine lv_aload_n (k := 1) hx hb (by decide +kernel) rfl (lv_at hl 1 rfl) ?_
  refine ll_arg C hS hl hL 1 (by decide) hn5 (by decide +kernel) ?_
  refine ll_arg C hS hl hL 2 (by decide) hn5 (by decide +kernel) ?_
  refine lc_callV (idx := 69) (o := 0) (as := [.int (xs (5 * n + 1)), .int (xs (5 * n + 2))]) (rest := []) (ll_c C) jm_at143 rfl hsp1 hl1 (hW.1 0 (by decide)) ((ll_c C).2.2.2.2.1 _ (by decide +kernel)) (by decide +kernel) (by rw [hRf]; decide) (by rw [hRl]; decide) hc hs hl.1 (Nat.le_of_ble_eq_true rfl) hP hz hS rfl ?_
  intro H1 locs1 hP1 hz1 hS1
  refine lv_aload_n (k := 2) hx hb (by decide +kernel) rfl (lv_at hl 2 rfl) ?_
  refine ll_arg C hS1 hl hL 1 (by decide) hn5 (by decide +kernel) ?_
  refine ll_arg C hS1 hl hL 2 (by decide) hn5 (by decide +kernel) ?_
  refine lc_callV (idx := 72) (o := 65) (as := [.int (xs (5 * n + 1)), .int (xs (5 * n + 2))]) (rest := [.int r]) (ll_c C) jm_at245 rfl hsp2 hl2 (hW1.1 65 (by decide)) ((ll_c C).2.2.2.2.1 _ (by decide +kernel)) (by decide +kernel) (by rw [hRf]; decide) (by rw [hRl]; decide) hc hs hl.1 (Nat.le_of_ble_eq_true rfl) hP1 hz1 hS1 rfl ?_
  intro H2 locs2 hP2 hz2 hS2
  refine lv_icmp_eq (off := 1053) (tgt := 1632) hx hb (by decide +kernel) (by decide) (fun _ => ?_) (fun q => absurd rfl q)
  exact kk H2 locs2 ⟨h2, σ', τ', P', Q', f, g, hW2, hR', by rw [hl2, hl1]; exact h95, by rw [hl2, hl1]; exact hln, hP2, hz2, hS2⟩
theorem ll_case10 (C : ll_C p l s m meth c b L xs D cA cL sa) (hL : L ≤ 2560) (hn5 : 5 * n + 5 ≤ L) (hRf : R.frames = 2048) (hRl : R.locals = 84000) (hc : cells ≤ R.cells) (hs : slots ≤ R.slots) (hA : ll_A s D cA cL n H locs) (hl : lv_has ls 7 (ll_v s b n))
    (kk : ∀ (H1 : Heap) (locs1 : List Loc), ll_A s D cA cL (n + 1) H1 locs1 → W p l e R s m #[Value.ref b] below meth c H1 locs1 cells slots Q (F0 m 1632 ls [])) : W p l e R s m #[Value.ref b] below meth c H locs cells slots Q (F0 m 584 ls []) := by
  obtain ⟨h, σ, τ, P, Q0, f, g, hW, hR, h95, hln, hP, hz, hS⟩ := hA
  obtain ⟨r, σ', τ', P', Q', e1, e2, -, hR'⟩ := eq_dismount hR 
  obtain ⟨h1, hsp1, hl1, hW1⟩ := sp_c hW (t_X10_dismount (lsC_ok hW) (d := 0) ⟨(r, σ'), e1, rfl, rfl⟩)
  obtain ⟨h2, hsp2, hl2, hW2⟩ := sp_m hW1 (t_X11_dismount (lsM_ok hW1) (d := 0) ⟨(r, τ'), e2, rfl, _, rfl⟩)
  have hx := C.1.1
  have hb := C.1.2.1
  refine lv_aload_n (k := 1) hx hb (by decide +kernel) rfl (lv_at hl 1 rfl) ?_
  refine lc_callV (idx := 73) (o := 0) (as := []) (rest := []) (ll_c C) jm_at144 rfl hsp1 hl1 (hW.1 0 (by decide)) ((ll_c C).2.2.2.2.1 _ (by decide +kernel)) (by decide +kernel) (by rw [hRf]; decide) (by rw [hRl]; decide) hc hs hl.1 (Nat.le_of_ble_eq_true rfl) hP hz hS rfl ?_
  intro H1 locs1 hP1 hz1 hS1
  refine lv_aload_n (k := 2) hx hb (by decide +kernel) rfl (lv_at hl 2 rfl) ?_
  refine lc_callV (idx := 76) (o := 65) (as := []) (rest := [.int r]) (ll_c C) jm_at247 rfl hsp2 hl2 (hW1.1 65 (by decide)) ((ll_c C).2.2.2.2.1 _ (by decide +kernel)) (by decide +kernel) (by rw [hRf]; decide) (by rw [hRl]; decide) hc hs hl.1 (Nat.le_of_ble_eq_true rfl) hP1 hz1 hS1 rfl ?_
  intro H2 locs2 hP2 hz2 hS2
  refine lv_icmp_eq (off := 1040) (tgt := 1632) hx hb (by decide +kernel) (by decide) (fun _ => ?_) (fun q => absurd rfl q)
  exact kk H2 locs2 ⟨h2, σ', τ', P', Q', f, g, hW2, hR', by rw [hl2, hl1]; exact h95, by rw [hl2, hl1]; exact hln, hP2, hz2, hS2⟩
theorem ll_case11 (C : ll_C p l s m meth c b L xs D cA cL sa) (hL : L ≤ 2560) (hn5 : 5 * n + 5 ≤ L) (hRf : R.frames = 2048) (hRl : R.locals = 84000) (hc : cells ≤ R.cells) (hs : slots ≤ R.slots) (hA : ll_A s D cA cL n H locs) (hl : lv_has ls 7 (ll_v s b n))
    (kk : ∀ (H1 : Heap) (locs1 : List Loc), ll_A s D cA cL (n + 1) H1 locs1 → W p l e R s m #[Value.ref b] below meth c H1 locs1 cells slots Q (F0 m 1632 ls [])) : W p l e R s m #[Value.ref b] below meth c H locs cells slots Q (F0 m 597 ls []) := by
  obtain ⟨h, σ, τ, P, Q0, f, g, hW, hR, h95, hln, hP, hz, hS⟩ := hA
  obtain ⟨r, σ', τ', P', Q', e1, e2, -, hR'⟩ := eq_ride hR (xs (5 * n + 1))
  obtain ⟨h1, hsp1, hl1, hW1⟩ := sp_c hW (t_X10_ride (lsC_ok hW) (d := 0) ⟨(r, σ'), e1, rfl, rfl⟩)
  obtain ⟨h2, hsp2, hl2, hW2⟩ := sp_m hW1 (t_X11_ride (lsM_ok hW1) (d := 0) ⟨(r, τ'), e2, fun rd => ⟨rfl, rd, rfl⟩⟩)
  have hx := C.1.1
  have hb := C.1.2.1
  refine lv_aload_n (k := 1) hx hb (by decide +kernel) rfl (lv_at hl 1 rfl) ?_
  refine ll_arg C hS hl hL 1 (by decide) hn5 (by decide +kernel) ?_
  refine lc_callV (idx := 77) (o := 0) (as := [.int (xs (5 * n + 1))]) (rest := []) (ll_c C) jm_at145 rfl hsp1 hl1 (hW.1 0 (by decide)) ((ll_c C).2.2.2.2.1 _ (by decide +kernel)) (by decide +kernel) (by rw [hRf]; decide) (by rw [hRl]; decide) hc hs hl.1 (Nat.le_of_ble_eq_true rfl) hP hz hS rfl ?_
  intro H1 locs1 hP1 hz1 hS1
  refine lv_aload_n (k := 2) hx hb (by decide +kernel) rfl (lv_at hl 2 rfl) ?_
  refine ll_arg C hS1 hl hL 1 (by decide) hn5 (by decide +kernel) ?_
  refine lc_callV (idx := 80) (o := 65) (as := [.int (xs (5 * n + 1))]) (rest := [.int r]) (ll_c C) jm_at249 rfl hsp2 hl2 (hW1.1 65 (by decide)) ((ll_c C).2.2.2.2.1 _ (by decide +kernel)) (by decide +kernel) (by rw [hRf]; decide) (by rw [hRl]; decide) hc hs hl.1 (Nat.le_of_ble_eq_true rfl) hP1 hz1 hS1 rfl ?_
  intro H2 locs2 hP2 hz2 hS2
  refine lv_icmp_eq (off := 1015) (tgt := 1632) hx hb (by decide +kernel) (by decide) (fun _ => ?_) (fun q => absurd rfl q)
  exact kk H2 locs2 ⟨h2, σ', τ', P', Q', f, g, hW2, hR', by rw [hl2, hl1]; exact h95, by rw [hl2, hl1]; exact hln, hP2, hz2, hS2⟩
theorem ll_case12 (C : ll_C p l s m meth c b L xs D cA cL sa) (hL : L ≤ 2560) (hn5 : 5 * n + 5 ≤ L) (hRf : R.frames = 2048) (hRl : R.locals = 84000) (hc : cells ≤ R.cells) (hs : slots ≤ R.slots) (hA : ll_A s D cA cL n H locs) (hl : lv_has ls 7 (ll_v s b n))
    (kk : ∀ (H1 : Heap) (locs1 : List Loc), ll_A s D cA cL (n + 1) H1 locs1 → W p l e R s m #[Value.ref b] below meth c H1 locs1 cells slots Q (F0 m 1632 ls [])) : W p l e R s m #[Value.ref b] below meth c H locs cells slots Q (F0 m 622 ls []) := by
  obtain ⟨h, σ, τ, P, Q0, f, g, hW, hR, h95, hln, hP, hz, hS⟩ := hA
  obtain ⟨r, σ', τ', P', Q', e1, e2, -, hR'⟩ := eq_walk hR (xs (5 * n + 1)) (xs (5 * n + 2))
  obtain ⟨h1, hsp1, hl1, hW1⟩ := sp_c hW (t_X10_walk (lsC_ok hW) (d := 0) ⟨(r, σ'), e1, rfl, rfl⟩)
  obtain ⟨h2, hsp2, hl2, hW2⟩ := sp_m hW1 (t_X11_walk (lsM_ok hW1) (d := 0) ⟨(r, τ'), e2, rfl, _, rfl⟩)
  have hx := C.1.1
  have hb := C.1.2.1
  refine lv_aload_n (k := 1) hx hb (by decide +kernel) rfl (lv_at hl 1 rfl) ?_
  refine ll_arg C hS hl hL 1 (by decide) hn5 (by decide +kernel) ?_
  refine ll_arg C hS hl hL 2 (by decide) hn5 (by decide +kernel) ?_
  refine lc_callV (idx := 81) (o := 0) (as := [.int (xs (5 * n + 1)), .int (xs (5 * n + 2))]) (rest := []) (ll_c C) jm_at146 rfl hsp1 hl1 (hW.1 0 (by decide)) ((ll_c C).2.2.2.2.1 _ (by decide +kernel)) (by decide +kernel) (by rw [hRf]; decide) (by rw [hRl]; decide) hc hs hl.1 (Nat.le_of_ble_eq_true rfl) hP hz hS rfl ?_
  intro H1 locs1 hP1 hz1 hS1
  refine lv_aload_n (k := 2) hx hb (by decide +kernel) rfl (lv_at hl 2 rfl) ?_
  refine ll_arg C hS1 hl hL 1 (by decide) hn5 (by decide +kernel) ?_
  refine ll_arg C hS1 hl hL 2 (by decide) hn5 (by decide +kernel) ?_
  refine lc_callV (idx := 84) (o := 65) (as := [.int (xs (5 * n + 1)), .int (xs (5 * n + 2))]) (rest := [.int r]) (ll_c C) jm_at253 rfl hsp2 hl2 (hW1.1 65 (by decide)) ((ll_c C).2.2.2.2.1 _ (by decide +kernel)) (by decide +kernel) (by rw [hRf]; decide) (by rw [hRl]; decide) hc hs hl.1 (Nat.le_of_ble_eq_true rfl) hP1 hz1 hS1 rfl ?_
  intro H2 locs2 hP2 hz2 hS2
  refine lv_icmp_eq (off := 978) (tgt := 1632) hx hb (by decide +kernel) (by decide) (fun _ => ?_) (fun q => absurd rfl q)
  exact kk H2 locs2 ⟨h2, σ', τ', P', Q', f, g, hW2, hR', by rw [hl2, hl1]; exact h95, by rw [hl2, hl1]; exact hln, hP2, hz2, hS2⟩
theorem ll_case13 (C : ll_C p l s m meth c b L xs D cA cL sa) (hL : L ≤ 2560) (hn5 : 5 * n + 5 ≤ L) (hRf : R.frames = 2048) (hRl : R.locals = 84000) (hc : cells ≤ R.cells) (hs : slots ≤ R.slots) (hA : ll_A s D cA cL n H locs) (hl : lv_has ls 7 (ll_v s b n))
    (kk : ∀ (H1 : Heap) (locs1 : List Loc), ll_A s D cA cL (n + 1) H1 locs1 → W p l e R s m #[Value.ref b] below meth c H1 locs1 cells slots Q (F0 m 1632 ls [])) : W p l e R s m #[Value.ref b] below meth c H locs cells slots Q (F0 m 659 ls []) := by
  obtain ⟨h, σ, τ, P, Q0, f, g, hW, hR, h95, hln, hP, hz, hS⟩ := hA
  obtain ⟨r, σ', τ', P', Q', e1, e2, -, hR'⟩ := eq_lead hR (xs (5 * n + 1)) (xs (5 * n + 2))
  obtain ⟨h1, hsp1, hl1, hW1⟩ := sp_c hW (t_X10_lead (lsC_ok hW) (d := 0) ⟨(r, σ'), e1, rfl, rfl⟩)
  obtain ⟨h2, hsp2, hl2, hW2⟩ := sp_m hW1 (t_X11_lead (lsM_ok hW1) (d := 0) ⟨(r, τ'), e2, rfl, _, rfl⟩)
  have hx := C.1.1
  have hb := C.1.2.1
  refine lv_aload_n (k := 1) hx hb (by decide +kernel) rfl (lv_at hl 1 rfl) ?_
  refine ll_arg C hS hl hL 1 (by decide) hn5 (by decide +kernel) ?_
  refine ll_arg C hS hl hL 2 (by decide) hn5 (by decide +kernel) ?_
  refine lc_callV (idx := 85) (o := 0) (as := [.int (xs (5 * n + 1)), .int (xs (5 * n + 2))]) (rest := []) (ll_c C) jm_at147 rfl hsp1 hl1 (hW.1 0 (by decide)) ((ll_c C).2.2.2.2.1 _ (by decide +kernel)) (by decide +kernel) (by rw [hRf]; decide) (by rw [hRl]; decide) hc hs hl.1 (Nat.le_of_ble_eq_true rfl) hP hz hS rfl ?_
  intro H1 locs1 hP1 hz1 hS1
  refine lv_aload_n (k := 2) hx hb (by decide +kernel) rfl (lv_at hl 2 rfl) ?_
  refine ll_arg C hS1 hl hL 1 (by decide) hn5 (by decide +kernel) ?_
  refine ll_arg C hS1 hl hL 2 (by decide) hn5 (by decide +kernel) ?_
  refine lc_callV (idx := 88) (o := 65) (as := [.int (xs (5 * n + 1)), .int (xs (5 * n + 2))]) (rest := [.int r]) (ll_c C) jm_at256 rfl hsp2 hl2 (hW1.1 65 (by decide)) ((ll_c C).2.2.2.2.1 _ (by decide +kernel)) (by decide +kernel) (by rw [hRf]; decide) (by rw [hRl]; decide) hc hs hl.1 (Nat.le_of_ble_eq_true rfl) hP1 hz1 hS1 rfl ?_
  intro H2 locs2 hP2 hz2 hS2
  refine lv_icmp_eq (off := 941) (tgt := 1632) hx hb (by decide +kernel) (by decide) (fun _ => ?_) (fun q => absurd rfl q)
  exact kk H2 locs2 ⟨h2, σ', τ', P', Q', f, g, hW2, hR', by rw [hl2, hl1]; exact h95, by rw [hl2, hl1]; exact hln, hP2, hz2, hS2⟩
theorem ll_case14 (C : ll_C p l s m meth c b L xs D cA cL sa) (hL : L ≤ 2560) (hn5 : 5 * n + 5 ≤ L) (hRf : R.frames = 2048) (hRl : R.locals = 84000) (hc : cells ≤ R.cells) (hs : slots ≤ R.slots) (hA : ll_A s D cA cL n H locs) (hl : lv_has ls 7 (ll_v s b n))
    (kk : ∀ (H1 : Heap) (locs1 : List Loc), ll_A s D cA cL (n + 1) H1 locs1 → W p l e R s m #[Value.ref b] below meth c H1 locs1 cells slots Q (F0 m 1632 ls [])) : W p l e R s m #[Value.ref b] below meth c H locs cells slots Q (F0 m 696 ls []) := by
  obtain ⟨h, σ, τ, P, Q0, f, g, hW, hR, h95, hln, hP, hz, hS⟩ := hA
  obtain ⟨r, σ', τ', P', Q', e1, e2, -, hR'⟩ := eq_rest hR (xs (5 * n + 1))
  obtain ⟨h1, hsp1, hl1, hW1⟩ := sp_c hW (t_X10_rest (lsC_ok hW) (d := 0) ⟨(r, σ'), e1, rfl, rfl⟩)
  obtain ⟨h2, hsp2, hl2, hW2⟩ := sp_m hW1 (t_X11_rest (lsM_ok hW1) (d := 0) ⟨(r, τ'), e2, rfl, _, rfl⟩)
  have hx := C.1.1
  have hb := C.1.2.1
  refine lv_aload_n (k := 1) hx hb (by decide +kernel) rfl (lv_at hl 1 rfl) ?_
  refine ll_arg C hS hl hL 1 (by decide) hn5 (by decide +kernel) ?_
  refine lc_callV (idx := 89) (o := 0) (as := [.int (xs (5 * n + 1))]) (rest := []) (ll_c C) jm_at148 rfl hsp1 hl1 (hW.1 0 (by decide)) ((ll_c C).2.2.2.2.1 _ (by decide +kernel)) (by decide +kernel) (by rw [hRf]; decide) (by rw [hRl]; decide) hc hs hl.1 (Nat.le_of_ble_eq_true rfl) hP hz hS rfl ?_
  intro H1 locs1 hP1 hz1 hS1
  refine lv_aload_n (k := 2) hx hb (by decide +kernel) rfl (lv_at hl 2 rfl) ?_
  refine ll_arg C hS1 hl hL 1 (by decide) hn5 (by decide +kernel) ?_
  refine lc_callV (idx := 92) (o := 65) (as := [.int (xs (5 * n + 1))]) (rest := [.int r]) (ll_c C) jm_at260 rfl hsp2 hl2 (hW1.1 65 (by decide)) ((ll_c C).2.2.2.2.1 _ (by decide +kernel)) (by decide +kernel) (by rw [hRf]; decide) (by rw [hRl]; decide) hc hs hl.1 (Nat.le_of_ble_eq_true rfl) hP1 hz1 hS1 rfl ?_
  intro H2 locs2 hP2 hz2 hS2
  refine lv_icmp_eq (off := 916) (tgt := 1632) hx hb (by decide +kernel) (by decide) (fun _ => ?_) (fun q => absurd rfl q)
  exact kk H2 locs2 ⟨h2, σ', τ', P', Q', f, g, hW2, hR', by rw [hl2, hl1]; exact h95, by rw [hl2, hl1]; exact hln, hP2, hz2, hS2⟩
theorem ll_case15 (C : ll_C p l s m meth c b L xs D cA cL sa) (hL : L ≤ 2560) (hn5 : 5 * n + 5 ≤ L) (hRf : R.frames = 2048) (hRl : R.locals = 84000) (hc : cells ≤ R.cells) (hs : slots ≤ R.slots) (hA : ll_A s D cA cL n H locs) (hl : lv_has ls 7 (ll_v s b n))
    (kk : ∀ (H1 : Heap) (locs1 : List Loc), ll_A s D cA cL (n + 1) H1 locs1 → W p l e R s m #[Value.ref b] below meth c H1 locs1 cells slots Q (F0 m 1632 ls [])) : W p l e R s m #[Value.ref b] below meth c H locs cells slots Q (F0 m 721 ls []) := by
  obtain ⟨h, σ, τ, P, Q0, f, g, hW, hR, h95, hln, hP, hz, hS⟩ := hA
  obtain ⟨r, σ', τ', P', Q', e1, e2, -, hR'⟩ := eq_deal hR (xs (5 * n + 1)) (xs (5 * n + 2))
  obtain ⟨h1, hsp1, hl1, hW1⟩ := sp_c hW (t_X10_deal (lsC_ok hW) (d := 0) ⟨(r, σ'), e1, rfl, rfl⟩)
  obtain ⟨h2, hsp2, hl2, hW2⟩ := sp_m hW1 (t_X11_deal (lsM_ok hW1) (d := 0) ⟨(r, τ'), e2, rfl, _, rfl⟩)
  have hx := C.1.1
  have hb := C.1.2.1
  refine lv_aload_n (k := 1) hx hb (by decide +kernel) rfl (lv_at hl 1 rfl) ?_
  refine ll_arg C hS hl hL 1 (by decide) hn5 (by decide +kernel) ?_
  refine ll_arg C hS hl hL 2 (by decide) hn5 (by decide +kernel) ?_
  refine lc_callV (idx := 93) (o := 0) (as := [.int (xs (5 * n + 1)), .int (xs (5 * n + 2))]) (rest := []) (ll_c C) jm_at149 rfl hsp1 hl1 (hW.1 0 (by decide)) ((ll_c C).2.2.2.2.1 _ (by decide +kernel)) (by decide +kernel) (by rw [hRf]; decide) (by rw [hRl]; decide) hc hs hl.1 (Nat.le_of_ble_eq_true rfl) hP hz hS rfl ?_
  intro H1 locs1 hP1 hz1 hS1
  refine lv_aload_n (k := 2) hx hb (by decide +kernel) rfl (lv_at hl 2 rfl) ?_
  refine ll_arg C hS1 hl hL 1 (by decide) hn5 (by decide +kernel) ?_
  refine ll_arg C hS1 hl hL 2 (by decide) hn5 (by decide +kernel) ?_
  refine lc_callV (idx := 96) (o := 65) (as := [.int (xs (5 * n + 1)), .int (xs (5 * n + 2))]) (rest := [.int r]) (ll_c C) jm_at263 rfl hsp2 hl2 (hW1.1 65 (by decide)) ((ll_c C).2.2.2.2.1 _ (by decide +kernel)) (by decide +kernel) (by rw [hRf]; decide) (by rw [hRl]; decide) hc hs hl.1 (Nat.le_of_ble_eq_true rfl) hP1 hz1 hS1 rfl ?_
  intro H2 locs2 hP2 hz2 hS2
  refine lv_icmp_eq (off := 879) (tgt := 1632) hx hb (by decide +kernel) (by decide) (fun _ => ?_) (fun q => absurd rfl q)
  exact kk H2 locs2 ⟨h2, σ', τ', P', Q', f, g, hW2, hR', by rw [hl2, hl1]; exact h95, by rw [hl2, hl1]; exact hln, hP2, hz2, hS2⟩
theorem ll_case16 (C : ll_C p l s m meth c b L xs D cA cL sa) (hL : L ≤ 2560) (hn5 : 5 * n + 5 ≤ L) (hRf : R.frames = 2048) (hRl : R.locals = 84000) (hc : cells ≤ R.cells) (hs : slots ≤ R.slots) (hA : ll_A s D cA cL n H locs) (hl : lv_has ls 7 (ll_v s b n))
    (kk : ∀ (H1 : Heap) (locs1 : List Loc), ll_A s D cA cL (n + 1) H1 locs1 → W p l e R s m #[Value.ref b] below meth c H1 locs1 cells slots Q (F0 m 1632 ls [])) : W p l e R s m #[Value.ref b] below meth c H locs cells slots Q (F0 m 758 ls []) := by
  obtain ⟨h, σ, τ, P, Q0, f, g, hW, hR, h95, hln, hP, hz, hS⟩ := hA
  obtain ⟨r, σ', τ', P', Q', e1, e2, -, hR'⟩ := eq_journey (by omega) hR 
  obtain ⟨h1, hsp1, hl1, hW1⟩ := sp_c hW (t_X10_journey (lsC_ok hW) (d := 0) ⟨(r, σ'), e1, rfl, rfl⟩)
  obtain ⟨h2, hsp2, hl2, hW2⟩ := sp_m hW1 (t_X11_journey (lsM_ok hW1) (d := 0) ⟨(r, τ'), e2, fun rd => ⟨rfl, rd, rfl⟩⟩)
  have hx := C.1.1
  have hb := C.1.2.1
  refine lv_aload_n (k := 1) hx hb (by decide +kernel) rfl (lv_at hl 1 rfl) ?_
  refine lc_callV (idx := 97) (o := 0) (as := []) (rest := []) (ll_c C) jm_at159 rfl hsp1 hl1 (hW.1 0 (by decide)) ((ll_c C).2.2.2.2.1 _ (by decide +kernel)) (by decide +kernel) (by rw [hRf]; decide) (by rw [hRl]; decide) hc hs hl.1 (Nat.le_of_ble_eq_true rfl) hP hz hS rfl ?_
  intro H1 locs1 hP1 hz1 hS1
  refine lv_aload_n (k := 2) hx hb (by decide +kernel) rfl (lv_at hl 2 rfl) ?_
  refine lc_callV (idx := 100) (o := 65) (as := []) (rest := [.int r]) (ll_c C) jm_at264 rfl hsp2 hl2 (hW1.1 65 (by decide)) ((ll_c C).2.2.2.2.1 _ (by decide +kernel)) (by decide +kernel) (by rw [hRf]; decide) (by rw [hRl]; decide) hc hs hl.1 (Nat.le_of_ble_eq_true rfl) hP1 hz1 hS1 rfl ?_
  intro H2 locs2 hP2 hz2 hS2
  refine lv_icmp_eq (off := 866) (tgt := 1632) hx hb (by decide +kernel) (by decide) (fun _ => ?_) (fun q => absurd rfl q)
  exact kk H2 locs2 ⟨h2, σ', τ', P', Q', f, g, hW2, hR', by rw [hl2, hl1]; exact h95, by rw [hl2, hl1]; exact hln, hP2, hz2, hS2⟩
theorem ll_case17 (C : ll_C p l s m meth c b L xs D cA cL sa) (hL : L ≤ 2560) (hn5 : 5 * n + 5 ≤ L) (hRf : R.frames = 2048) (hRl : R.locals = 84000) (hc : cells ≤ R.cells) (hs : slots ≤ R.slots) (hA : ll_A s D cA cL n H locs) (hl : lv_has ls 7 (ll_v s b n))
    (kk : ∀ (H1 : Heap) (locs1 : List Loc), ll_A s D cA cL (n + 1) H1 locs1 → W p l e R s m #[Value.ref b] below meth c H1 locs1 cells slots Q (F0 m 1632 ls [])) : W p l e R s m #[Value.ref b] below meth c H locs cells slots Q (F0 m 771 ls []) := by
  obtain ⟨h, σ, τ, P, Q0, f, g, hW, hR, h95, hln, hP, hz, hS⟩ := hA
  obtain ⟨r, σ', τ', P', Q', e1, e2, -, hR'⟩ := eq_undo hR 
  obtain ⟨h1, hsp1, hl1, hW1⟩ := sp_c hW (t_X10_undo (lsC_ok hW) (d := 0) ⟨(r, σ'), e1, rfl, rfl⟩)
  obtain ⟨h2, hsp2, hl2, hW2⟩ := sp_m hW1 (t_X11_undo (lsM_ok hW1) (d := 0) ⟨(r, τ'), e2, rfl, _, rfl⟩)
  have hx := C.1.1
  have hb := C.1.2.1
  refine lv_aload_n (k := 1) hx hb (by decide +kernel) rfl (lv_at hl 1 rfl) ?_
  refine lc_callV (idx := 101) (o := 0) (as := []) (rest := []) (ll_c C) jm_at161 rfl hsp1 hl1 (hW.1 0 (by decide)) ((ll_c C).2.2.2.2.1 _ (by decide +kernel)) (by decide +kernel) (by rw [hRf]; decide) (by rw [hRl]; decide) hc hs hl.1 (Nat.le_of_ble_eq_true rfl) hP hz hS rfl ?_
  intro H1 locs1 hP1 hz1 hS1
  refine lv_aload_n (k := 2) hx hb (by decide +kernel) rfl (lv_at hl 2 rfl) ?_
  refine lc_callV (idx := 104) (o := 65) (as := []) (rest := [.int r]) (ll_c C) jm_at267 rfl hsp2 hl2 (hW1.1 65 (by decide)) ((ll_c C).2.2.2.2.1 _ (by decide +kernel)) (by decide +kernel) (by rw [hRf]; decide) (by rw [hRl]; decide) hc hs hl.1 (Nat.le_of_ble_eq_true rfl) hP1 hz1 hS1 rfl ?_
  intro H2 locs2 hP2 hz2 hS2
  refine lv_icmp_eq (off := 853) (tgt := 1632) hx hb (by decide +kernel) (by decide) (fun _ => ?_) (fun q => absurd rfl q)
  exact kk H2 locs2 ⟨h2, σ', τ', P', Q', f, g, hW2, hR', by rw [hl2, hl1]; exact h95, by rw [hl2, hl1]; exact hln, hP2, hz2, hS2⟩
theorem ll_case18 (C : ll_C p l s m meth c b L xs D cA cL sa) (hL : L ≤ 2560) (hn5 : 5 * n + 5 ≤ L) (hRf : R.frames = 2048) (hRl : R.locals = 84000) (hc : cells ≤ R.cells) (hs : slots ≤ R.slots) (hA : ll_A s D cA cL n H locs) (hl : lv_has ls 7 (ll_v s b n))
    (kk : ∀ (H1 : Heap) (locs1 : List Loc), ll_A s D cA cL (n + 1) H1 locs1 → W p l e R s m #[Value.ref b] below meth c H1 locs1 cells slots Q (F0 m 1632 ls [])) : W p l e R s m #[Value.ref b] below meth c H locs cells slots Q (F0 m 784 ls []) := by
  obtain ⟨h, σ, τ, P, Q0, f, g, hW, hR, h95, hln, hP, hz, hS⟩ := hA
  obtain ⟨r, σ', τ', P', Q', e1, e2, -, hR'⟩ := eq_where hR (xs (5 * n + 1))
  obtain ⟨h1, hsp1, hl1, hW1⟩ := sp_c hW (t_X10_where (lsC_ok hW) (d := 0) ⟨(r, σ'), e1, rfl, rfl⟩)
  obtain ⟨h2, hsp2, hl2, hW2⟩ := sp_m hW1 (t_X11_where (lsM_ok hW1) (d := 0) ⟨(r, τ'), e2, fun rd => ⟨rfl, rd, rfl⟩⟩)
  have hx := C.1.1
  have hb := C.1.2.1
  refine lv_aload_n (k := 1) hx hb (by decide +kernel) rfl (lv_at hl 1 rfl) ?_
  refine ll_arg C hS hl hL 1 (by decide) hn5 (by decide +kernel) ?_
  refine lc_callV (idx := 105) (o := 0) (as := [.int (xs (5 * n + 1))]) (rest := []) (ll_c C) jm_at162 rfl hsp1 hl1 (hW.1 0 (by decide)) ((ll_c C).2.2.2.2.1 _ (by decide +kernel)) (by decide +kernel) (by rw [hRf]; decide) (by rw [hRl]; decide) hc hs hl.1 (Nat.le_of_ble_eq_true rfl) hP hz hS rfl ?_
  intro H1 locs1 hP1 hz1 hS1
  refine lv_aload_n (k := 2) hx hb (by decide +kernel) rfl (lv_at hl 2 rfl) ?_
  refine ll_arg C hS1 hl hL 1 (by decide) hn5 (by decide +kernel) ?_
  refine lc_callV (idx := 108) (o := 65) (as := [.int (xs (5 * n + 1))]) (rest := [.int r]) (ll_c C) jm_at269 rfl hsp2 hl2 (hW1.1 65 (by decide)) ((ll_c C).2.2.2.2.1 _ (by decide +kernel)) (by decide +kernel) (by rw [hRf]; decide) (by rw [hRl]; decide) hc hs hl.1 (Nat.le_of_ble_eq_true rfl) hP1 hz1 hS1 rfl ?_
  intro H2 locs2 hP2 hz2 hS2
  refine lv_icmp_eq (off := 828) (tgt := 1632) hx hb (by decide +kernel) (by decide) (fun _ => ?_) (fun q => absurd rfl q)
  exact kk H2 locs2 ⟨h2, σ', τ', P', Q', f, g, hW2, hR', by rw [hl2, hl1]; exact h95, by rw [hl2, hl1]; exact hln, hP2, hz2, hS2⟩
theorem ll_case19 (C : ll_C p l s m meth c b L xs D cA cL sa) (hL : L ≤ 2560) (hn5 : 5 * n + 5 ≤ L) (hRf : R.frames = 2048) (hRl : R.locals = 84000) (hc : cells ≤ R.cells) (hs : slots ≤ R.slots) (hA : ll_A s D cA cL n H locs) (hl : lv_has ls 7 (ll_v s b n))
    (kk : ∀ (H1 : Heap) (locs1 : List Loc), ll_A s D cA cL (n + 1) H1 locs1 → W p l e R s m #[Value.ref b] below meth c H1 locs1 cells slots Q (F0 m 1632 ls [])) : W p l e R s m #[Value.ref b] below meth c H locs cells slots Q (F0 m 809 ls []) := by
  obtain ⟨h, σ, τ, P, Q0, f, g, hW, hR, h95, hln, hP, hz, hS⟩ := hA
  obtain ⟨r, σ', τ', P', Q', e1, e2, -, hR'⟩ := eq_stops hR (xs (5 * n + 1)) (xs (5 * n + 2)) (xs (5 * n + 3))
  obtain ⟨h1, hsp1, hl1, hW1⟩ := sp_c hW (t_X10_stops (lsC_ok hW) (d := 0) ⟨(r, σ'), e1, rfl, rfl⟩)
  obtain ⟨h2, hsp2, hl2, hW2⟩ := sp_m hW1 (t_X11_stops (lsM_ok hW1) (d := 0) ⟨(r, τ'), e2, fun rd => ⟨rfl, rd, rfl⟩⟩)
  have hx := C.1.1
  have hb := C.1.2.1
  refine lv_aload_n (k := 1) hx hb (by decide +kernel) rfl (lv_at hl 1 rfl) ?_
  refine ll_arg C hS hl hL 1 (by decide) hn5 (by decide +kernel) ?_
  refine ll_arg C hS hl hL 2 (by decide) hn5 (by decide +kernel) ?_
  refine ll_arg C hS hl hL 3 (by decide) hn5 (by decide +kernel) ?_
  refine lc_callV (idx := 109) (o := 0) (as := [.int (xs (5 * n + 1)), .int (xs (5 * n + 2)), .int (xs (5 * n + 3))]) (rest := []) (ll_c C) jm_at164 rfl hsp1 hl1 (hW.1 0 (by decide)) ((ll_c C).2.2.2.2.1 _ (by decide +kernel)) (by decide +kernel) (by rw [hRf]; decide) (by rw [hRl]; decide) hc hs hl.1 (Nat.le_of_ble_eq_true rfl) hP hz hS rfl ?_
  intro H1 locs1 hP1 hz1 hS1
  refine lv_aload_n (k := 2) hx hb (by decide +kernel) rfl (lv_at hl 2 rfl) ?_
  refine ll_arg C hS1 hl hL 1 (by decide) hn5 (by decide +kernel) ?_
  refine ll_arg C hS1 hl hL 2 (by decide) hn5 (by decide +kernel) ?_
  refine ll_arg C hS1 hl hL 3 (by decide) hn5 (by decide +kernel) ?_
  refine lc_callV (idx := 113) (o := 65) (as := [.int (xs (5 * n + 1)), .int (xs (5 * n + 2)), .int (xs (5 * n + 3))]) (rest := [.int r]) (ll_c C) jm_at273 rfl hsp2 hl2 (hW1.1 65 (by decide)) ((ll_c C).2.2.2.2.1 _ (by decide +kernel)) (by decide +kernel) (by rw [hRf]; decide) (by rw [hRl]; decide) hc hs hl.1 (Nat.le_of_ble_eq_true rfl) hP1 hz1 hS1 rfl ?_
  intro H2 locs2 hP2 hz2 hS2
  refine lv_icmp_eq (off := 779) (tgt := 1632) hx hb (by decide +kernel) (by decide) (fun _ => ?_) (fun q => absurd rfl q)
  exact kk H2 locs2 ⟨h2, σ', τ', P', Q', f, g, hW2, hR', by rw [hl2, hl1]; exact h95, by rw [hl2, hl1]; exact hln, hP2, hz2, hS2⟩
theorem ll_case20 (C : ll_C p l s m meth c b L xs D cA cL sa) (hL : L ≤ 2560) (hn5 : 5 * n + 5 ≤ L) (hRf : R.frames = 2048) (hRl : R.locals = 84000) (hc : cells ≤ R.cells) (hs : slots ≤ R.slots) (hA : ll_A s D cA cL n H locs) (hl : lv_has ls 7 (ll_v s b n))
    (kk : ∀ (H1 : Heap) (locs1 : List Loc), ll_A s D cA cL (n + 1) H1 locs1 → W p l e R s m #[Value.ref b] below meth c H1 locs1 cells slots Q (F0 m 1632 ls [])) : W p l e R s m #[Value.ref b] below meth c H locs cells slots Q (F0 m 858 ls []) := by
  obtain ⟨h, σ, τ, P, Q0, f, g, hW, hR, h95, hln, hP, hz, hS⟩ := hA
  obtain ⟨r, σ', τ', P', Q', e1, e2, -, hR'⟩ := eq_trail hR (xs (5 * n + 1)) (xs (5 * n + 2)) (xs (5 * n + 3))
  obtain ⟨h1, hsp1, hl1, hW1⟩ := sp_c hW (t_X10_trail (lsC_ok hW) (d := 0) ⟨(r, σ'), e1, rfl, rfl⟩)
  obtain ⟨h2, hsp2, hl2, hW2⟩ := sp_m hW1 (t_X11_trail (lsM_ok hW1) (d := 0) ⟨(r, τ'), e2, fun rd => ⟨rfl, rd, rfl⟩⟩)
  have hx := C.1.1
  have hb := C.1.2.1
  refine lv_aload_n (k := 1) hx hb (by decide +kernel) rfl (lv_at hl 1 rfl) ?_
  refine ll_arg C hS hl hL 1 (by decide) hn5 (by decide +kernel) ?_
  refine ll_arg C hS hl hL 2 (by decide) hn5 (by decide +kernel) ?_
  refine ll_arg C hS hl hL 3 (by decide) hn5 (by decide +kernel) ?_
  refine lc_callV (idx := 114) (o := 0) (as := [.int (xs (5 * n + 1)), .int (xs (5 * n + 2)), .int (xs (5 * n + 3))]) (rest := []) (ll_c C) jm_at165 rfl hsp1 hl1 (hW.1 0 (by decide)) ((ll_c C).2.2.2.2.1 _ (by decide +kernel)) (by decide +kernel) (by rw [hRf]; decide) (by rw [hRl]; decide) hc hs hl.1 (Nat.le_of_ble_eq_true rfl) hP hz hS rfl ?_
  intro H1 locs1 hP1 hz1 hS1
  refine lv_aload_n (k := 2) hx hb (by decide +kernel) rfl (lv_at hl 2 rfl) ?_
  refine ll_arg C hS1 hl hL 1 (by decide) hn5 (by decide +kernel) ?_
  refine ll_arg C hS1 hl hL 2 (by decide) hn5 (by decide +kernel) ?_
  refine ll_arg C hS1 hl hL 3 (by decide) hn5 (by decide +kernel) ?_
  refine lc_callV (idx := 117) (o := 65) (as := [.int (xs (5 * n + 1)), .int (xs (5 * n + 2)), .int (xs (5 * n + 3))]) (rest := [.int r]) (ll_c C) jm_at274 rfl hsp2 hl2 (hW1.1 65 (by decide)) ((ll_c C).2.2.2.2.1 _ (by decide +kernel)) (by decide +kernel) (by rw [hRf]; decide) (by rw [hRl]; decide) hc hs hl.1 (Nat.le_of_ble_eq_true rfl) hP1 hz1 hS1 rfl ?_
  intro H2 locs2 hP2 hz2 hS2
  refine lv_icmp_eq (off := 730) (tgt := 1632) hx hb (by decide +kernel) (by decide) (fun _ => ?_) (fun q => absurd rfl q)
  exact kk H2 locs2 ⟨h2, σ', τ', P', Q', f, g, hW2, hR', by rw [hl2, hl1]; exact h95, by rw [hl2, hl1]; exact hln, hP2, hz2, hS2⟩
theorem ll_case21 (C : ll_C p l s m meth c b L xs D cA cL sa) (hL : L ≤ 2560) (hn5 : 5 * n + 5 ≤ L) (hRf : R.frames = 2048) (hRl : R.locals = 84000) (hc : cells ≤ R.cells) (hs : slots ≤ R.slots) (hA : ll_A s D cA cL n H locs) (hl : lv_has ls 7 (ll_v s b n))
    (kk : ∀ (H1 : Heap) (locs1 : List Loc), ll_A s D cA cL (n + 1) H1 locs1 → W p l e R s m #[Value.ref b] below meth c H1 locs1 cells slots Q (F0 m 1632 ls [])) : W p l e R s m #[Value.ref b] below meth c H locs cells slots Q (F0 m 907 ls []) := by
  obtain ⟨h, σ, τ, P, Q0, f, g, hW, hR, h95, hln, hP, hz, hS⟩ := hA
  obtain ⟨r, σ', τ', P', Q', e1, e2, -, hR'⟩ := eq_reaches hR (xs (5 * n + 1)) (xs (5 * n + 2)) (xs (5 * n + 3)) (xs (5 * n + 4))
  obtain ⟨h1, hsp1, hl1, hW1⟩ := sp_c hW (t_X10_reaches (lsC_ok hW) (d := 0) ⟨(r, σ'), e1, rfl, rfl⟩)
  obtain ⟨h2, hsp2, hl2, hW2⟩ := sp_m hW1 (t_X11_reaches (lsM_ok hW1) (d := 0) ⟨(r, τ'), e2, fun rd => ⟨rfl, rd, rfl⟩⟩)
  have hx := C.1.1
  have hb := C.1.2.1
  refine lv_aload_n (k := 1) hx hb (by decide +kernel) rfl (lv_at hl 1 rfl) ?_
  refine ll_arg C hS hl hL 1 (by decide) hn5 (by decide +kernel) ?_
  refine ll_arg C hS hl hL 2 (by decide) hn5 (by decide +kernel) ?_
  refine ll_arg C hS hl hL 3 (by decide) hn5 (by decide +kernel) ?_
  refine ll_arg C hS hl hL 4 (by decide) hn5 (by decide +kernel) ?_
  refine lc_callV (idx := 118) (o := 0) (as := [.int (xs (5 * n + 1)), .int (xs (5 * n + 2)), .int (xs (5 * n + 3)), .int (xs (5 * n + 4))]) (rest := []) (ll_c C) jm_at167 rfl hsp1 hl1 (hW.1 0 (by decide)) ((ll_c C).2.2.2.2.1 _ (by decide +kernel)) (by decide +kernel) (by rw [hRf]; decide) (by rw [hRl]; decide) hc hs hl.1 (Nat.le_of_ble_eq_true rfl) hP hz hS rfl ?_
  intro H1 locs1 hP1 hz1 hS1
  refine lv_aload_n (k := 2) hx hb (by decide +kernel) rfl (lv_at hl 2 rfl) ?_
  refine ll_arg C hS1 hl hL 1 (by decide) hn5 (by decide +kernel) ?_
  refine ll_arg C hS1 hl hL 2 (by decide) hn5 (by decide +kernel) ?_
  refine ll_arg C hS1 hl hL 3 (by decide) hn5 (by decide +kernel) ?_
  refine ll_arg C hS1 hl hL 4 (by decide) hn5 (by decide +kernel) ?_
  refine lc_callV (idx := 121) (o := 65) (as := [.int (xs (5 * n + 1)), .int (xs (5 * n + 2)), .int (xs (5 * n + 3)), .int (xs (5 * n + 4))]) (rest := [.int r]) (ll_c C) jm_at275 rfl hsp2 hl2 (hW1.1 65 (by decide)) ((ll_c C).2.2.2.2.1 _ (by decide +kernel)) (by decide +kernel) (by rw [hRf]; decide) (by rw [hRl]; decide) hc hs hl.1 (Nat.le_of_ble_eq_true rfl) hP1 hz1 hS1 rfl ?_
  intro H2 locs2 hP2 hz2 hS2
  refine lv_icmp_eq (off := 669) (tgt := 1632) hx hb (by decide +kernel) (by decide) (fun _ => ?_) (fun q => absurd rfl q)
  exact kk H2 locs2 ⟨h2, σ', τ', P', Q', f, g, hW2, hR', by rw [hl2, hl1]; exact h95, by rw [hl2, hl1]; exact hln, hP2, hz2, hS2⟩
theorem ll_case22 (C : ll_C p l s m meth c b L xs D cA cL sa) (hL : L ≤ 2560) (hn5 : 5 * n + 5 ≤ L) (hRf : R.frames = 2048) (hRl : R.locals = 84000) (hc : cells ≤ R.cells) (hs : slots ≤ R.slots) (hA : ll_A s D cA cL n H locs) (hl : lv_has ls 7 (ll_v s b n))
    (kk : ∀ (H1 : Heap) (locs1 : List Loc), ll_A s D cA cL (n + 1) H1 locs1 → W p l e R s m #[Value.ref b] below meth c H1 locs1 cells slots Q (F0 m 1632 ls [])) : W p l e R s m #[Value.ref b] below meth c H locs cells slots Q (F0 m 968 ls []) := by
  obtain ⟨h, σ, τ, P, Q0, f, g, hW, hR, h95, hln, hP, hz, hS⟩ := hA
  obtain ⟨r, σ', τ', P', Q', e1, e2, -, hR'⟩ := eq_pairs hR (xs (5 * n + 1)) (xs (5 * n + 2))
  obtain ⟨h1, hsp1, hl1, hW1⟩ := sp_c hW (t_X10_pairs (lsC_ok hW) (d := 0) ⟨(r, σ'), e1, rfl, rfl⟩)
  obtain ⟨h2, hsp2, hl2, hW2⟩ := sp_m hW1 (t_X11_pairs (lsM_ok hW1) (d := 0) ⟨(r, τ'), e2, fun rd => ⟨rfl, rd, rfl⟩⟩)
  have hx := C.1.1
  have hb := C.1.2.1
  refine lv_aload_n (k := 1) hx hb (by decide +kernel) rfl (lv_at hl 1 rfl) ?_
  refine ll_arg C hS hl hL 1 (by decide) hn5 (by decide +kernel) ?_
  refine ll_arg C hS hl hL 2 (by decide) hn5 (by decide +kernel) ?_
  refine lc_callV (idx := 122) (o := 0) (as := [.int (xs (5 * n + 1)), .int (xs (5 * n + 2))]) (rest := []) (ll_c C) jm_at168 rfl hsp1 hl1 (hW.1 0 (by decide)) ((ll_c C).2.2.2.2.1 _ (by decide +kernel)) (by decide +kernel) (by rw [hRf]; decide) (by rw [hRl]; decide) hc hs hl.1 (Nat.le_of_ble_eq_true rfl) hP hz hS rfl ?_
  intro H1 locs1 hP1 hz1 hS1
  refine lv_aload_n (k := 2) hx hb (by decide +kernel) rfl (lv_at hl 2 rfl) ?_
  refine ll_arg C hS1 hl hL 1 (by decide) hn5 (by decide +kernel) ?_
  refine ll_arg C hS1 hl hL 2 (by decide) hn5 (by decide +kernel) ?_
  refine lc_callV (idx := 125) (o := 65) (as := [.int (xs (5 * n + 1)), .int (xs (5 * n + 2))]) (rest := [.int r]) (ll_c C) jm_at277 rfl hsp2 hl2 (hW1.1 65 (by decide)) ((ll_c C).2.2.2.2.1 _ (by decide +kernel)) (by decide +kernel) (by rw [hRf]; decide) (by rw [hRl]; decide) hc hs hl.1 (Nat.le_of_ble_eq_true rfl) hP1 hz1 hS1 rfl ?_
  intro H2 locs2 hP2 hz2 hS2
  refine lv_icmp_eq (off := 632) (tgt := 1632) hx hb (by decide +kernel) (by decide) (fun _ => ?_) (fun q => absurd rfl q)
  exact kk H2 locs2 ⟨h2, σ', τ', P', Q', f, g, hW2, hR', by rw [hl2, hl1]; exact h95, by rw [hl2, hl1]; exact hln, hP2, hz2, hS2⟩
theorem ll_case23 (C : ll_C p l s m meth c b L xs D cA cL sa) (hL : L ≤ 2560) (hn5 : 5 * n + 5 ≤ L) (hRf : R.frames = 2048) (hRl : R.locals = 84000) (hc : cells ≤ R.cells) (hs : slots ≤ R.slots) (hA : ll_A s D cA cL n H locs) (hl : lv_has ls 7 (ll_v s b n))
    (kk : ∀ (H1 : Heap) (locs1 : List Loc), ll_A s D cA cL (n + 1) H1 locs1 → W p l e R s m #[Value.ref b] below meth c H1 locs1 cells slots Q (F0 m 1632 ls [])) : W p l e R s m #[Value.ref b] below meth c H locs cells slots Q (F0 m 1005 ls []) := by
  obtain ⟨h, σ, τ, P, Q0, f, g, hW, hR, h95, hln, hP, hz, hS⟩ := hA
  obtain ⟨r, σ', τ', P', Q', e1, e2, -, hR'⟩ := eq_changes hR (xs (5 * n + 1)) (xs (5 * n + 2))
  obtain ⟨h1, hsp1, hl1, hW1⟩ := sp_c hW (t_X10_changes (lsC_ok hW) (d := 0) ⟨(r, σ'), e1, rfl, rfl⟩)
  obtain ⟨h2, hsp2, hl2, hW2⟩ := sp_m hW1 (t_X11_changes (lsM_ok hW1) (d := 0) ⟨(r, τ'), e2, fun rd => ⟨rfl, rd, rfl⟩⟩)
  have hx := C.1.1
  have hb := C.1.2.1
  refine lv_aload_n (k := 1) hx hb (by decide +kernel) rfl (lv_at hl 1 rfl) ?_
  refine ll_arg C hS hl hL 1 (by decide) hn5 (by decide +kernel) ?_
  refine ll_arg C hS hl hL 2 (by decide) hn5 (by decide +kernel) ?_
  refine lc_callV (idx := 126) (o := 0) (as := [.int (xs (5 * n + 1)), .int (xs (5 * n + 2))]) (rest := []) (ll_c C) jm_at170 rfl hsp1 hl1 (hW.1 0 (by decide)) ((ll_c C).2.2.2.2.1 _ (by decide +kernel)) (by decide +kernel) (by rw [hRf]; decide) (by rw [hRl]; decide) hc hs hl.1 (Nat.le_of_ble_eq_true rfl) hP hz hS rfl ?_
  intro H1 locs1 hP1 hz1 hS1
  refine lv_aload_n (k := 2) hx hb (by decide +kernel) rfl (lv_at hl 2 rfl) ?_
  refine ll_arg C hS1 hl hL 1 (by decide) hn5 (by decide +kernel) ?_
  refine ll_arg C hS1 hl hL 2 (by decide) hn5 (by decide +kernel) ?_
  refine lc_callV (idx := 129) (o := 65) (as := [.int (xs (5 * n + 1)), .int (xs (5 * n + 2))]) (rest := [.int r]) (ll_c C) jm_at281 rfl hsp2 hl2 (hW1.1 65 (by decide)) ((ll_c C).2.2.2.2.1 _ (by decide +kernel)) (by decide +kernel) (by rw [hRf]; decide) (by rw [hRl]; decide) hc hs hl.1 (Nat.le_of_ble_eq_true rfl) hP1 hz1 hS1 rfl ?_
  intro H2 locs2 hP2 hz2 hS2
  refine lv_icmp_eq (off := 595) (tgt := 1632) hx hb (by decide +kernel) (by decide) (fun _ => ?_) (fun q => absurd rfl q)
  exact kk H2 locs2 ⟨h2, σ', τ', P', Q', f, g, hW2, hR', by rw [hl2, hl1]; exact h95, by rw [hl2, hl1]; exact hln, hP2, hz2, hS2⟩
theorem ll_case24 (C : ll_C p l s m meth c b L xs D cA cL sa) (hL : L ≤ 2560) (hn5 : 5 * n + 5 ≤ L) (hRf : R.frames = 2048) (hRl : R.locals = 84000) (hc : cells ≤ R.cells) (hs : slots ≤ R.slots) (hA : ll_A s D cA cL n H locs) (hl : lv_has ls 7 (ll_v s b n))
    (kk : ∀ (H1 : Heap) (locs1 : List Loc), ll_A s D cA cL (n + 1) H1 locs1 → W p l e R s m #[Value.ref b] below meth c H1 locs1 cells slots Q (F0 m 1632 ls [])) : W p l e R s m #[Value.ref b] below meth c H locs cells slots Q (F0 m 1042 ls []) := by
  obtain ⟨h, σ, τ, P, Q0, f, g, hW, hR, h95, hln, hP, hz, hS⟩ := hA
  obtain ⟨r, σ', τ', P', Q', e1, e2, -, hR'⟩ := eq_stations hR (xs (5 * n + 1))
  obtain ⟨h1, hsp1, hl1, hW1⟩ := sp_c hW (t_X10_stations (lsC_ok hW) (d := 0) ⟨(r, σ'), e1, rfl, rfl⟩)
  obtain ⟨h2, hsp2, hl2, hW2⟩ := sp_m hW1 (t_X11_stations (lsM_ok hW1) (d := 0) ⟨(r, τ'), e2, fun rd => ⟨rfl, rd, rfl⟩⟩)
  have hx := C.1.1
  have hb := C.1.2.1
  refine lv_aload_n (k := 1) hx hb (by decide +kernel) rfl (lv_at hl 1 rfl) ?_
  refine ll_arg C hS hl hL 1 (by decide) hn5 (by decide +kernel) ?_
  refine lc_callV (idx := 130) (o := 0) (as := [.int (xs (5 * n + 1))]) (rest := []) (ll_c C) jm_at171 rfl hsp1 hl1 (hW.1 0 (by decide)) ((ll_c C).2.2.2.2.1 _ (by decide +kernel)) (by decide +kernel) (by rw [hRf]; decide) (by rw [hRl]; decide) hc hs hl.1 (Nat.le_of_ble_eq_true rfl) hP hz hS rfl ?_
  intro H1 locs1 hP1 hz1 hS1
  refine lv_aload_n (k := 2) hx hb (by decide +kernel) rfl (lv_at hl 2 rfl) ?_
  refine ll_arg C hS1 hl hL 1 (by decide) hn5 (by decide +kernel) ?_
  refine lc_callV (idx := 133) (o := 65) (as := [.int (xs (5 * n + 1))]) (rest := [.int r]) (ll_c C) jm_at282 rfl hsp2 hl2 (hW1.1 65 (by decide)) ((ll_c C).2.2.2.2.1 _ (by decide +kernel)) (by decide +kernel) (by rw [hRf]; decide) (by rw [hRl]; decide) hc hs hl.1 (Nat.le_of_ble_eq_true rfl) hP1 hz1 hS1 rfl ?_
  intro H2 locs2 hP2 hz2 hS2
  refine lv_icmp_eq (off := 570) (tgt := 1632) hx hb (by decide +kernel) (by decide) (fun _ => ?_) (fun q => absurd rfl q)
  exact kk H2 locs2 ⟨h2, σ', τ', P', Q', f, g, hW2, hR', by rw [hl2, hl1]; exact h95, by rw [hl2, hl1]; exact hln, hP2, hz2, hS2⟩
theorem ll_case25 (C : ll_C p l s m meth c b L xs D cA cL sa) (hL : L ≤ 2560) (hn5 : 5 * n + 5 ≤ L) (hRf : R.frames = 2048) (hRl : R.locals = 84000) (hc : cells ≤ R.cells) (hs : slots ≤ R.slots) (hA : ll_A s D cA cL n H locs) (hl : lv_has ls 7 (ll_v s b n))
    (kk : ∀ (H1 : Heap) (locs1 : List Loc), ll_A s D cA cL (n + 1) H1 locs1 → W p l e R s m #[Value.ref b] below meth c H1 locs1 cells slots Q (F0 m 1632 ls [])) : W p l e R s m #[Value.ref b] below meth c H locs cells slots Q (F0 m 1067 ls []) := by
  obtain ⟨h, σ, τ, P, Q0, f, g, hW, hR, h95, hln, hP, hz, hS⟩ := hA
  obtain ⟨r, σ', τ', P', Q', e1, e2, -, hR'⟩ := eq_foot hR (xs (5 * n + 1)) (xs (5 * n + 2))
  obtain ⟨h1, hsp1, hl1, hW1⟩ := sp_c hW (t_X10_foot (lsC_ok hW) (d := 0) ⟨(r, σ'), e1, rfl, rfl⟩)
  obtain ⟨h2, hsp2, hl2, hW2⟩ := sp_m hW1 (t_X11_foot (lsM_ok hW1) (d := 0) ⟨(r, τ'), e2, rfl, _, rfl⟩)
  have hx := C.1.1
  have hb := C.1.2.1
  refine lv_aload_n (k := 1) hx hb (by decide +kernel) rfl (lv_at hl 1 rfl) ?_
  refine ll_arg C hS hl hL 1 (by decide) hn5 (by decide +kernel) ?_
  refine ll_arg C hS hl hL 2 (by decide) hn5 (by decide +kernel) ?_
  refine lc_callV (idx := 134) (o := 0) (as := [.int (xs (5 * n + 1)), .int (xs (5 * n + 2))]) (rest := []) (ll_c C) jm_at172 rfl hsp1 hl1 (hW.1 0 (by decide)) ((ll_c C).2.2.2.2.1 _ (by decide +kernel)) (by decide +kernel) (by rw [hRf]; decide) (by rw [hRl]; decide) hc hs hl.1 (Nat.le_of_ble_eq_true rfl) hP hz hS rfl ?_
  intro H1 locs1 hP1 hz1 hS1
  refine lv_aload_n (k := 2) hx hb (by decide +kernel) rfl (lv_at hl 2 rfl) ?_
  refine ll_arg C hS1 hl hL 1 (by decide) hn5 (by decide +kernel) ?_
  refine ll_arg C hS1 hl hL 2 (by decide) hn5 (by decide +kernel) ?_
  refine lc_callV (idx := 137) (o := 65) (as := [.int (xs (5 * n + 1)), .int (xs (5 * n + 2))]) (rest := [.int r]) (ll_c C) jm_at283 rfl hsp2 hl2 (hW1.1 65 (by decide)) ((ll_c C).2.2.2.2.1 _ (by decide +kernel)) (by decide +kernel) (by rw [hRf]; decide) (by rw [hRl]; decide) hc hs hl.1 (Nat.le_of_ble_eq_true rfl) hP1 hz1 hS1 rfl ?_
  intro H2 locs2 hP2 hz2 hS2
  refine lv_icmp_eq (off := 533) (tgt := 1632) hx hb (by decide +kernel) (by decide) (fun _ => ?_) (fun q => absurd rfl q)
  exact kk H2 locs2 ⟨h2, σ', τ', P', Q', f, g, hW2, hR', by rw [hl2, hl1]; exact h95, by rw [hl2, hl1]; exact hln, hP2, hz2, hS2⟩
theorem ll_case26 (C : ll_C p l s m meth c b L xs D cA cL sa) (hL : L ≤ 2560) (hn5 : 5 * n + 5 ≤ L) (hRf : R.frames = 2048) (hRl : R.locals = 84000) (hc : cells ≤ R.cells) (hs : slots ≤ R.slots) (hA : ll_A s D cA cL n H locs) (hl : lv_has ls 7 (ll_v s b n))
    (kk : ∀ (H1 : Heap) (locs1 : List Loc), ll_A s D cA cL (n + 1) H1 locs1 → W p l e R s m #[Value.ref b] below meth c H1 locs1 cells slots Q (F0 m 1632 ls [])) : W p l e R s m #[Value.ref b] below meth c H locs cells slots Q (F0 m 1104 ls []) := by
  obtain ⟨h, σ, τ, P, Q0, f, g, hW, hR, h95, hln, hP, hz, hS⟩ := hA
  obtain ⟨r, σ', τ', P', Q', e1, e2, -, hR'⟩ := eq_record hR (xs (5 * n + 1))
  obtain ⟨h1, hsp1, hl1, hW1⟩ := sp_c hW (t_X10_record (lsC_ok hW) (d := 0) ⟨(r, σ'), e1, rfl, rfl⟩)
  obtain ⟨h2, hsp2, hl2, hW2⟩ := sp_m hW1 (t_X11_record (lsM_ok hW1) (d := 0) ⟨(r, τ'), e2, fun rd => ⟨rfl, rd, rfl⟩⟩)
  have hx := C.1.1
  have hb := C.1.2.1
  refine lv_aload_n (k := 1) hx hb (by decide +kernel) rfl (lv_at hl 1 rfl) ?_
  refine ll_arg C hS hl hL 1 (by decide) hn5 (by decide +kernel) ?_
  refine lc_callV (idx := 138) (o := 0) (as := [.int (xs (5 * n + 1))]) (rest := []) (ll_c C) jm_at174 rfl hsp1 hl1 (hW.1 0 (by decide)) ((ll_c C).2.2.2.2.1 _ (by decide +kernel)) (by decide +kernel) (by rw [hRf]; decide) (by rw [hRl]; decide) hc hs hl.1 (Nat.le_of_ble_eq_true rfl) hP hz hS rfl ?_
  intro H1 locs1 hP1 hz1 hS1
  refine lv_aload_n (k := 2) hx hb (by decide +kernel) rfl (lv_at hl 2 rfl) ?_
  refine ll_arg C hS1 hl hL 1 (by decide) hn5 (by decide +kernel) ?_
  refine lc_callV (idx := 141) (o := 65) (as := [.int (xs (5 * n + 1))]) (rest := [.int r]) (ll_c C) jm_at285 rfl hsp2 hl2 (hW1.1 65 (by decide)) ((ll_c C).2.2.2.2.1 _ (by decide +kernel)) (by decide +kernel) (by rw [hRf]; decide) (by rw [hRl]; decide) hc hs hl.1 (Nat.le_of_ble_eq_true rfl) hP1 hz1 hS1 rfl ?_
  intro H2 locs2 hP2 hz2 hS2
  refine lv_icmp_eq (off := 508) (tgt := 1632) hx hb (by decide +kernel) (by decide) (fun _ => ?_) (fun q => absurd rfl q)
  exact kk H2 locs2 ⟨h2, σ', τ', P', Q', f, g, hW2, hR', by rw [hl2, hl1]; exact h95, by rw [hl2, hl1]; exact hln, hP2, hz2, hS2⟩
theorem ll_case27 (C : ll_C p l s m meth c b L xs D cA cL sa) (hL : L ≤ 2560) (hn5 : 5 * n + 5 ≤ L) (hRf : R.frames = 2048) (hRl : R.locals = 84000) (hc : cells ≤ R.cells) (hs : slots ≤ R.slots) (hA : ll_A s D cA cL n H locs) (hl : lv_has ls 7 (ll_v s b n))
    (kk : ∀ (H1 : Heap) (locs1 : List Loc), ll_A s D cA cL (n + 1) H1 locs1 → W p l e R s m #[Value.ref b] below meth c H1 locs1 cells slots Q (F0 m 1632 ls [])) : W p l e R s m #[Value.ref b] below meth c H locs cells slots Q (F0 m 1129 ls []) := by
  obtain ⟨h, σ, τ, P, Q0, f, g, hW, hR, h95, hln, hP, hz, hS⟩ := hA
  obtain ⟨r, σ', τ', P', Q', e1, e2, -, hR'⟩ := eq_matches hR (xs (5 * n + 1)) (xs (5 * n + 2))
  obtain ⟨h1, hsp1, hl1, hW1⟩ := sp_c hW (t_X10_matches (lsC_ok hW) (d := 0) ⟨(r, σ'), e1, rfl, rfl⟩)
  obtain ⟨h2, hsp2, hl2, hW2⟩ := sp_m hW1 (t_X11_matches (lsM_ok hW1) (d := 0) ⟨(r, τ'), e2, fun rd => ⟨rfl, rd, rfl⟩⟩)
  have hx := C.1.1
  have hb := C.1.2.1
  refine lv_aload_n (k := 1) hx hb (by decide +kernel) rfl (lv_at hl 1 rfl) ?_
  refine ll_arg C hS hl hL 1 (by decide) hn5 (by decide +kernel) ?_
  refine ll_arg C hS hl hL 2 (by decide) hn5 (by decide +kernel) ?_
  refine lc_callV (idx := 142) (o := 0) (as := [.int (xs (5 * n + 1)), .int (xs (5 * n + 2))]) (rest := []) (ll_c C) jm_at175 rfl hsp1 hl1 (hW.1 0 (by decide)) ((ll_c C).2.2.2.2.1 _ (by decide +kernel)) (by decide +kernel) (by rw [hRf]; decide) (by rw [hRl]; decide) hc hs hl.1 (Nat.le_of_ble_eq_true rfl) hP hz hS rfl ?_
  intro H1 locs1 hP1 hz1 hS1
  refine lv_aload_n (k := 2) hx hb (by decide +kernel) rfl (lv_at hl 2 rfl) ?_
  refine ll_arg C hS1 hl hL 1 (by decide) hn5 (by decide +kernel) ?_
  refine ll_arg C hS1 hl hL 2 (by decide) hn5 (by decide +kernel) ?_
  refine lc_callV (idx := 145) (o := 65) (as := [.int (xs (5 * n + 1)), .int (xs (5 * n + 2))]) (rest := [.int r]) (ll_c C) jm_at288 rfl hsp2 hl2 (hW1.1 65 (by decide)) ((ll_c C).2.2.2.2.1 _ (by decide +kernel)) (by decide +kernel) (by rw [hRf]; decide) (by rw [hRl]; decide) hc hs hl.1 (Nat.le_of_ble_eq_true rfl) hP1 hz1 hS1 rfl ?_
  intro H2 locs2 hP2 hz2 hS2
  refine lv_icmp_eq (off := 471) (tgt := 1632) hx hb (by decide +kernel) (by decide) (fun _ => ?_) (fun q => absurd rfl q)
  exact kk H2 locs2 ⟨h2, σ', τ', P', Q', f, g, hW2, hR', by rw [hl2, hl1]; exact h95, by rw [hl2, hl1]; exact hln, hP2, hz2, hS2⟩
theorem ll_case28 (C : ll_C p l s m meth c b L xs D cA cL sa) (hL : L ≤ 2560) (hn5 : 5 * n + 5 ≤ L) (hRf : R.frames = 2048) (hRl : R.locals = 84000) (hc : cells ≤ R.cells) (hs : slots ≤ R.slots) (hA : ll_A s D cA cL n H locs) (hl : lv_has ls 7 (ll_v s b n))
    (kk : ∀ (H1 : Heap) (locs1 : List Loc), ll_A s D cA cL (n + 1) H1 locs1 → W p l e R s m #[Value.ref b] below meth c H1 locs1 cells slots Q (F0 m 1632 ls [])) : W p l e R s m #[Value.ref b] below meth c H locs cells slots Q (F0 m 1166 ls []) := by
  obtain ⟨h, σ, τ, P, Q0, f, g, hW, hR, h95, hln, hP, hz, hS⟩ := hA
  obtain ⟨r, σ', τ', P', Q', e1, e2, -, hR'⟩ := eq_partner hR (xs (5 * n + 1)) (xs (5 * n + 2))
  obtain ⟨h1, hsp1, hl1, hW1⟩ := sp_c hW (t_X10_partner (lsC_ok hW) (d := 0) ⟨(r, σ'), e1, rfl, rfl⟩)
  obtain ⟨h2, hsp2, hl2, hW2⟩ := sp_m hW1 (t_X11_partner (lsM_ok hW1) (d := 0) ⟨(r, τ'), e2, fun rd => ⟨rfl, rd, rfl⟩⟩)
  have hx := C.1.1
  have hb := C.1.2.1
  refine lv_aload_n (k := 1) hx hb (by decide +kernel) rfl (lv_at hl 1 rfl) ?_
  refine ll_arg C hS hl hL 1 (by decide) hn5 (by decide +kernel) ?_
  refine ll_arg C hS hl hL 2 (by decide) hn5 (by decide +kernel) ?_
  refine lc_callV (idx := 146) (o := 0) (as := [.int (xs (5 * n + 1)), .int (xs (5 * n + 2))]) (rest := []) (ll_c C) jm_at176 rfl hsp1 hl1 (hW.1 0 (by decide)) ((ll_c C).2.2.2.2.1 _ (by decide +kernel)) (by decide +kernel) (by rw [hRf]; decide) (by rw [hRl]; decide) hc hs hl.1 (Nat.le_of_ble_eq_true rfl) hP hz hS rfl ?_
  intro H1 locs1 hP1 hz1 hS1
  refine lv_aload_n (k := 2) hx hb (by decide +kernel) rfl (lv_at hl 2 rfl) ?_
  refine ll_arg C hS1 hl hL 1 (by decide) hn5 (by decide +kernel) ?_
  refine ll_arg C hS1 hl hL 2 (by decide) hn5 (by decide +kernel) ?_
  refine lc_callV (idx := 149) (o := 65) (as := [.int (xs (5 * n + 1)), .int (xs (5 * n + 2))]) (rest := [.int r]) (ll_c C) jm_at289 rfl hsp2 hl2 (hW1.1 65 (by decide)) ((ll_c C).2.2.2.2.1 _ (by decide +kernel)) (by decide +kernel) (by rw [hRf]; decide) (by rw [hRl]; decide) hc hs hl.1 (Nat.le_of_ble_eq_true rfl) hP1 hz1 hS1 rfl ?_
  intro H2 locs2 hP2 hz2 hS2
  refine lv_icmp_eq (off := 434) (tgt := 1632) hx hb (by decide +kernel) (by decide) (fun _ => ?_) (fun q => absurd rfl q)
  exact kk H2 locs2 ⟨h2, σ', τ', P', Q', f, g, hW2, hR', by rw [hl2, hl1]; exact h95, by rw [hl2, hl1]; exact hln, hP2, hz2, hS2⟩
theorem ll_case29 (C : ll_C p l s m meth c b L xs D cA cL sa) (hL : L ≤ 2560) (hn5 : 5 * n + 5 ≤ L) (hRf : R.frames = 2048) (hRl : R.locals = 84000) (hc : cells ≤ R.cells) (hs : slots ≤ R.slots) (hA : ll_A s D cA cL n H locs) (hl : lv_has ls 7 (ll_v s b n))
    (kk : ∀ (H1 : Heap) (locs1 : List Loc), ll_A s D cA cL (n + 1) H1 locs1 → W p l e R s m #[Value.ref b] below meth c H1 locs1 cells slots Q (F0 m 1632 ls [])) : W p l e R s m #[Value.ref b] below meth c H locs cells slots Q (F0 m 1203 ls []) := by
  obtain ⟨h, σ, τ, P, Q0, f, g, hW, hR, h95, hln, hP, hz, hS⟩ := hA
  obtain ⟨r, σ', τ', P', Q', e1, e2, -, hR'⟩ := eq_agree hR (xs (5 * n + 1)) (xs (5 * n + 2))
  obtain ⟨h1, hsp1, hl1, hW1⟩ := sp_c hW (t_X10_agree (lsC_ok hW) (d := 0) ⟨(r, σ'), e1, rfl, rfl⟩)
  obtain ⟨h2, hsp2, hl2, hW2⟩ := sp_m hW1 (t_X11_agree (lsM_ok hW1) (d := 0) ⟨(r, τ'), e2, rfl, _, rfl⟩)
  have hx := C.1.1
  have hb := C.1.2.1
  refine lv_aload_n (k := 1) hx hb (by decide +kernel) rfl (lv_at hl 1 rfl) ?_
  refine ll_arg C hS hl hL 1 (by decide) hn5 (by decide +kernel) ?_
  refine ll_arg C hS hl hL 2 (by decide) hn5 (by decide +kernel) ?_
  refine lc_callV (idx := 150) (o := 0) (as := [.int (xs (5 * n + 1)), .int (xs (5 * n + 2))]) (rest := []) (ll_c C) jm_at177 rfl hsp1 hl1 (hW.1 0 (by decide)) ((ll_c C).2.2.2.2.1 _ (by decide +kernel)) (by decide +kernel) (by rw [hRf]; decide) (by rw [hRl]; decide) hc hs hl.1 (Nat.le_of_ble_eq_true rfl) hP hz hS rfl ?_
  intro H1 locs1 hP1 hz1 hS1
  refine lv_aload_n (k := 2) hx hb (by decide +kernel) rfl (lv_at hl 2 rfl) ?_
  refine ll_arg C hS1 hl hL 1 (by decide) hn5 (by decide +kernel) ?_
  refine ll_arg C hS1 hl hL 2 (by decide) hn5 (by decide +kernel) ?_
  refine lc_callV (idx := 153) (o := 65) (as := [.int (xs (5 * n + 1)), .int (xs (5 * n + 2))]) (rest := [.int r]) (ll_c C) jm_at290 rfl hsp2 hl2 (hW1.1 65 (by decide)) ((ll_c C).2.2.2.2.1 _ (by decide +kernel)) (by decide +kernel) (by rw [hRf]; decide) (by rw [hRl]; decide) hc hs hl.1 (Nat.le_of_ble_eq_true rfl) hP1 hz1 hS1 rfl ?_
  intro H2 locs2 hP2 hz2 hS2
  refine lv_icmp_eq (off := 397) (tgt := 1632) hx hb (by decide +kernel) (by decide) (fun _ => ?_) (fun q => absurd rfl q)
  exact kk H2 locs2 ⟨h2, σ', τ', P', Q', f, g, hW2, hR', by rw [hl2, hl1]; exact h95, by rw [hl2, hl1]; exact hln, hP2, hz2, hS2⟩
theorem ll_case30 (C : ll_C p l s m meth c b L xs D cA cL sa) (hL : L ≤ 2560) (hn5 : 5 * n + 5 ≤ L) (hRf : R.frames = 2048) (hRl : R.locals = 84000) (hc : cells ≤ R.cells) (hs : slots ≤ R.slots) (hA : ll_A s D cA cL n H locs) (hl : lv_has ls 7 (ll_v s b n))
    (kk : ∀ (H1 : Heap) (locs1 : List Loc), ll_A s D cA cL (n + 1) H1 locs1 → W p l e R s m #[Value.ref b] below meth c H1 locs1 cells slots Q (F0 m 1632 ls [])) : W p l e R s m #[Value.ref b] below meth c H locs cells slots Q (F0 m 1240 ls []) := by
  obtain ⟨h, σ, τ, P, Q0, f, g, hW, hR, h95, hln, hP, hz, hS⟩ := hA
  obtain ⟨r, σ', τ', P', Q', e1, e2, -, hR'⟩ := eq_convinces hR (xs (5 * n + 1)) (xs (5 * n + 2)) (xs (5 * n + 3))
  obtain ⟨h1, hsp1, hl1, hW1⟩ := sp_c hW (t_X10_convinces (lsC_ok hW) (d := 0) ⟨(r, σ'), e1, rfl, rfl⟩)
  obtain ⟨h2, hsp2, hl2, hW2⟩ := sp_m hW1 (t_X11_convinces (lsM_ok hW1) (d := 0) ⟨(r, τ'), e2, fun rd => ⟨rfl, rd, rfl⟩⟩)
  have hx := C.1.1
  have hb := C.1.2.1
  refine lv_aload_n (k := 1) hx hb (by decide +kernel) rfl (lv_at hl 1 rfl) ?_
  refine ll_arg C hS hl hL 1 (by decide) hn5 (by decide +kernel) ?_
  refine ll_arg C hS hl hL 2 (by decide) hn5 (by decide +kernel) ?_
  refine ll_arg C hS hl hL 3 (by decide) hn5 (by decide +kernel) ?_
  refine lc_callV (idx := 154) (o := 0) (as := [.int (xs (5 * n + 1)), .int (xs (5 * n + 2)), .int (xs (5 * n + 3))]) (rest := []) (ll_c C) jm_at178 rfl hsp1 hl1 (hW.1 0 (by decide)) ((ll_c C).2.2.2.2.1 _ (by decide +kernel)) (by decide +kernel) (by rw [hRf]; decide) (by rw [hRl]; decide) hc hs hl.1 (Nat.le_of_ble_eq_true rfl) hP hz hS rfl ?_
  intro H1 locs1 hP1 hz1 hS1
  refine lv_aload_n (k := 2) hx hb (by decide +kernel) rfl (lv_at hl 2 rfl) ?_
  refine ll_arg C hS1 hl hL 1 (by decide) hn5 (by decide +kernel) ?_
  refine ll_arg C hS1 hl hL 2 (by decide) hn5 (by decide +kernel) ?_
  refine ll_arg C hS1 hl hL 3 (by decide) hn5 (by decide +kernel) ?_
  refine lc_callV (idx := 157) (o := 65) (as := [.int (xs (5 * n + 1)), .int (xs (5 * n + 2)), .int (xs (5 * n + 3))]) (rest := [.int r]) (ll_c C) jm_at291 rfl hsp2 hl2 (hW1.1 65 (by decide)) ((ll_c C).2.2.2.2.1 _ (by decide +kernel)) (by decide +kernel) (by rw [hRf]; decide) (by rw [hRl]; decide) hc hs hl.1 (Nat.le_of_ble_eq_true rfl) hP1 hz1 hS1 rfl ?_
  intro H2 locs2 hP2 hz2 hS2
  refine lv_icmp_eq (off := 348) (tgt := 1632) hx hb (by decide +kernel) (by decide) (fun _ => ?_) (fun q => absurd rfl q)
  exact kk H2 locs2 ⟨h2, σ', τ', P', Q', f, g, hW2, hR', by rw [hl2, hl1]; exact h95, by rw [hl2, hl1]; exact hln, hP2, hz2, hS2⟩
theorem ll_case31 (C : ll_C p l s m meth c b L xs D cA cL sa) (hL : L ≤ 2560) (hn5 : 5 * n + 5 ≤ L) (hRf : R.frames = 2048) (hRl : R.locals = 84000) (hc : cells ≤ R.cells) (hs : slots ≤ R.slots) (hA : ll_A s D cA cL n H locs) (hl : lv_has ls 7 (ll_v s b n))
    (kk : ∀ (H1 : Heap) (locs1 : List Loc), ll_A s D cA cL (n + 1) H1 locs1 → W p l e R s m #[Value.ref b] below meth c H1 locs1 cells slots Q (F0 m 1632 ls [])) : W p l e R s m #[Value.ref b] below meth c H locs cells slots Q (F0 m 1289 ls []) := by
  obtain ⟨h, σ, τ, P, Q0, f, g, hW, hR, h95, hln, hP, hz, hS⟩ := hA
  obtain ⟨r, σ', τ', P', Q', e1, e2, -, hR'⟩ := eq_claim hR (xs (5 * n + 1)) (xs (5 * n + 2))
  obtain ⟨h1, hsp1, hl1, hW1⟩ := sp_c hW (t_X10_claim (lsC_ok hW) (d := 0) ⟨(r, σ'), e1, rfl, rfl⟩)
  obtain ⟨h2, hsp2, hl2, hW2⟩ := sp_m hW1 (t_X11_claim (lsM_ok hW1) (d := 0) ⟨(r, τ'), e2, fun rd => ⟨rfl, rd, rfl⟩⟩)
  have hx := C.1.1
  have hb := C.1.2.1
  refine lv_aload_n (k := 1) hx hb (by decide +kernel) rfl (lv_at hl 1 rfl) ?_
  refine ll_arg C hS hl hL 1 (by decide) hn5 (by decide +kernel) ?_
  refine ll_arg C hS hl hL 2 (by decide) hn5 (by decide +kernel) ?_
  refine lc_callV (idx := 158) (o := 0) (as := [.int (xs (5 * n + 1)), .int (xs (5 * n + 2))]) (rest := []) (ll_c C) jm_at179 rfl hsp1 hl1 (hW.1 0 (by decide)) ((ll_c C).2.2.2.2.1 _ (by decide +kernel)) (by decide +kernel) (by rw [hRf]; decide) (by rw [hRl]; decide) hc hs hl.1 (Nat.le_of_ble_eq_true rfl) hP hz hS rfl ?_
  intro H1 locs1 hP1 hz1 hS1
  refine lv_aload_n (k := 2) hx hb (by decide +kernel) rfl (lv_at hl 2 rfl) ?_
  refine ll_arg C hS1 hl hL 1 (by decide) hn5 (by decide +kernel) ?_
  refine ll_arg C hS1 hl hL 2 (by decide) hn5 (by decide +kernel) ?_
  refine lc_callV (idx := 161) (o := 65) (as := [.int (xs (5 * n + 1)), .int (xs (5 * n + 2))]) (rest := [.int r]) (ll_c C) jm_at294 rfl hsp2 hl2 (hW1.1 65 (by decide)) ((ll_c C).2.2.2.2.1 _ (by decide +kernel)) (by decide +kernel) (by rw [hRf]; decide) (by rw [hRl]; decide) hc hs hl.1 (Nat.le_of_ble_eq_true rfl) hP1 hz1 hS1 rfl ?_
  intro H2 locs2 hP2 hz2 hS2
  refine lv_icmp_eq (off := 311) (tgt := 1632) hx hb (by decide +kernel) (by decide) (fun _ => ?_) (fun q => absurd rfl q)
  exact kk H2 locs2 ⟨h2, σ', τ', P', Q', f, g, hW2, hR', by rw [hl2, hl1]; exact h95, by rw [hl2, hl1]; exact hln, hP2, hz2, hS2⟩
theorem ll_case32 (C : ll_C p l s m meth c b L xs D cA cL sa) (hL : L ≤ 2560) (hn5 : 5 * n + 5 ≤ L) (hRf : R.frames = 2048) (hRl : R.locals = 84000) (hc : cells ≤ R.cells) (hs : slots ≤ R.slots) (hA : ll_A s D cA cL n H locs) (hl : lv_has ls 7 (ll_v s b n))
    (kk : ∀ (H1 : Heap) (locs1 : List Loc), ll_A s D cA cL (n + 1) H1 locs1 → W p l e R s m #[Value.ref b] below meth c H1 locs1 cells slots Q (F0 m 1632 ls [])) : W p l e R s m #[Value.ref b] below meth c H locs cells slots Q (F0 m 1326 ls []) := by
  obtain ⟨h, σ, τ, P, Q0, f, g, hW, hR, h95, hln, hP, hz, hS⟩ := hA
  obtain ⟨r, σ', τ', P', Q', e1, e2, -, hR'⟩ := eq_lie hR (xs (5 * n + 1)) (xs (5 * n + 2))
  obtain ⟨h1, hsp1, hl1, hW1⟩ := sp_c hW (t_X10_lie (lsC_ok hW) (d := 0) ⟨(r, σ'), e1, rfl, rfl⟩)
  obtain ⟨h2, hsp2, hl2, hW2⟩ := sp_m hW1 (t_X11_lie (lsM_ok hW1) (d := 0) ⟨(r, τ'), e2, fun rd => ⟨rfl, rd, rfl⟩⟩)
  have hx := C.1.1
  have hb := C.1.2.1
  refine lv_aload_n (k := 1) hx hb (by decide +kernel) rfl (lv_at hl 1 rfl) ?_
  refine ll_arg C hS hl hL 1 (by decide) hn5 (by decide +kernel) ?_
  refine ll_arg C hS hl hL 2 (by decide) hn5 (by decide +kernel) ?_
  refine lc_callV (idx := 162) (o := 0) (as := [.int (xs (5 * n + 1)), .int (xs (5 * n + 2))]) (rest := []) (ll_c C) jm_at180 rfl hsp1 hl1 (hW.1 0 (by decide)) ((ll_c C).2.2.2.2.1 _ (by decide +kernel)) (by decide +kernel) (by rw [hRf]; decide) (by rw [hRl]; decide) hc hs hl.1 (Nat.le_of_ble_eq_true rfl) hP hz hS rfl ?_
  intro H1 locs1 hP1 hz1 hS1
  refine lv_aload_n (k := 2) hx hb (by decide +kernel) rfl (lv_at hl 2 rfl) ?_
  refine ll_arg C hS1 hl hL 1 (by decide) hn5 (by decide +kernel) ?_
  refine ll_arg C hS1 hl hL 2 (by decide) hn5 (by decide +kernel) ?_
  refine lc_callV (idx := 165) (o := 65) (as := [.int (xs (5 * n + 1)), .int (xs (5 * n + 2))]) (rest := [.int r]) (ll_c C) jm_at295 rfl hsp2 hl2 (hW1.1 65 (by decide)) ((ll_c C).2.2.2.2.1 _ (by decide +kernel)) (by decide +kernel) (by rw [hRf]; decide) (by rw [hRl]; decide) hc hs hl.1 (Nat.le_of_ble_eq_true rfl) hP1 hz1 hS1 rfl ?_
  intro H2 locs2 hP2 hz2 hS2
  refine lv_icmp_eq (off := 274) (tgt := 1632) hx hb (by decide +kernel) (by decide) (fun _ => ?_) (fun q => absurd rfl q)
  exact kk H2 locs2 ⟨h2, σ', τ', P', Q', f, g, hW2, hR', by rw [hl2, hl1]; exact h95, by rw [hl2, hl1]; exact hln, hP2, hz2, hS2⟩
theorem ll_case33 (C : ll_C p l s m meth c b L xs D cA cL sa) (hL : L ≤ 2560) (hn5 : 5 * n + 5 ≤ L) (hRf : R.frames = 2048) (hRl : R.locals = 84000) (hc : cells ≤ R.cells) (hs : slots ≤ R.slots) (hA : ll_A s D cA cL n H locs) (hl : lv_has ls 7 (ll_v s b n))
    (kk : ∀ (H1 : Heap) (locs1 : List Loc), ll_A s D cA cL (n + 1) H1 locs1 → W p l e R s m #[Value.ref b] below meth c H1 locs1 cells slots Q (F0 m 1632 ls [])) : W p l e R s m #[Value.ref b] below meth c H locs cells slots Q (F0 m 1363 ls []) := by
  obtain ⟨h, σ, τ, P, Q0, f, g, hW, hR, h95, hln, hP, hz, hS⟩ := hA
  obtain ⟨r, σ', τ', P', Q', e1, e2, -, hR'⟩ := eq_prints (by omega) hR 
  obtain ⟨h1, hsp1, hl1, hW1⟩ := sp_c hW (t_X10_prints (lsC_ok hW) (d := 0) ⟨(r, σ'), e1, rfl, rfl⟩)
  obtain ⟨h2, hsp2, hl2, hW2⟩ := sp_m hW1 (t_X11_prints (lsM_ok hW1) (d := 0) ⟨(r, τ'), e2, rfl, _, rfl⟩)
  have hx := C.1.1
  have hb := C.1.2.1
  refine lv_aload_n (k := 1) hx hb (by decide +kernel) rfl (lv_at hl 1 rfl) ?_
  refine lc_callV (idx := 166) (o := 0) (as := []) (rest := []) (ll_c C) jm_at181 rfl hsp1 hl1 (hW.1 0 (by decide)) ((ll_c C).2.2.2.2.1 _ (by decide +kernel)) (by decide +kernel) (by rw [hRf]; decide) (by rw [hRl]; decide) hc hs hl.1 (Nat.le_of_ble_eq_true rfl) hP hz hS rfl ?_
  intro H1 locs1 hP1 hz1 hS1
  refine lv_aload_n (k := 2) hx hb (by decide +kernel) rfl (lv_at hl 2 rfl) ?_
  refine lc_callV (idx := 169) (o := 65) (as := []) (rest := [.int r]) (ll_c C) jm_at296 rfl hsp2 hl2 (hW1.1 65 (by decide)) ((ll_c C).2.2.2.2.1 _ (by decide +kernel)) (by decide +kernel) (by rw [hRf]; decide) (by rw [hRl]; decide) hc hs hl.1 (Nat.le_of_ble_eq_true rfl) hP1 hz1 hS1 rfl ?_
  intro H2 locs2 hP2 hz2 hS2
  refine lv_icmp_eq (off := 261) (tgt := 1632) hx hb (by decide +kernel) (by decide) (fun _ => ?_) (fun q => absurd rfl q)
  exact kk H2 locs2 ⟨h2, σ', τ', P', Q', f, g, hW2, hR', by rw [hl2, hl1]; exact h95, by rw [hl2, hl1]; exact hln, hP2, hz2, hS2⟩
theorem ll_case34 (C : ll_C p l s m meth c b L xs D cA cL sa) (hL : L ≤ 2560) (hn5 : 5 * n + 5 ≤ L) (hRf : R.frames = 2048) (hRl : R.locals = 84000) (hc : cells ≤ R.cells) (hs : slots ≤ R.slots) (hA : ll_A s D cA cL n H locs) (hl : lv_has ls 7 (ll_v s b n))
    (kk : ∀ (H1 : Heap) (locs1 : List Loc), ll_A s D cA cL (n + 1) H1 locs1 → W p l e R s m #[Value.ref b] below meth c H1 locs1 cells slots Q (F0 m 1632 ls [])) : W p l e R s m #[Value.ref b] below meth c H locs cells slots Q (F0 m 1376 ls []) := by
  obtain ⟨h, σ, τ, P, Q0, f, g, hW, hR, h95, hln, hP, hz, hS⟩ := hA
  obtain ⟨r, σ', τ', P', Q', e1, e2, -, hR'⟩ := eq_fits hR 
  obtain ⟨h1, hsp1, hl1, hW1⟩ := sp_c hW (t_X10_fits (lsC_ok hW) (d := 0) ⟨(r, σ'), e1, rfl, rfl⟩)
  obtain ⟨h2, hsp2, hl2, hW2⟩ := sp_m hW1 (t_X11_fits (lsM_ok hW1) (d := 0) ⟨(r, τ'), e2, fun rd => ⟨rfl, rd, rfl⟩⟩)
  have hx := C.1.1
  have hb := C.1.2.1
  refine lv_aload_n (k := 1) hx hb (by decide +kernel) rfl (lv_at hl 1 rfl) ?_
  refine lc_callV (idx := 170) (o := 0) (as := []) (rest := []) (ll_c C) jm_at182 rfl hsp1 hl1 (hW.1 0 (by decide)) ((ll_c C).2.2.2.2.1 _ (by decide +kernel)) (by decide +kernel) (by rw [hRf]; decide) (by rw [hRl]; decide) hc hs hl.1 (Nat.le_of_ble_eq_true rfl) hP hz hS rfl ?_
  intro H1 locs1 hP1 hz1 hS1
  refine lv_aload_n (k := 2) hx hb (by decide +kernel) rfl (lv_at hl 2 rfl) ?_
  refine lc_callV (idx := 173) (o := 65) (as := []) (rest := [.int r]) (ll_c C) jm_at298 rfl hsp2 hl2 (hW1.1 65 (by decide)) ((ll_c C).2.2.2.2.1 _ (by decide +kernel)) (by decide +kernel) (by rw [hRf]; decide) (by rw [hRl]; decide) hc hs hl.1 (Nat.le_of_ble_eq_true rfl) hP1 hz1 hS1 rfl ?_
  intro H2 locs2 hP2 hz2 hS2
  refine lv_icmp_eq (off := 248) (tgt := 1632) hx hb (by decide +kernel) (by decide) (fun _ => ?_) (fun q => absurd rfl q)
  exact kk H2 locs2 ⟨h2, σ', τ', P', Q', f, g, hW2, hR', by rw [hl2, hl1]; exact h95, by rw [hl2, hl1]; exact hln, hP2, hz2, hS2⟩
theorem ll_case35 (C : ll_C p l s m meth c b L xs D cA cL sa) (hL : L ≤ 2560) (hn5 : 5 * n + 5 ≤ L) (hRf : R.frames = 2048) (hRl : R.locals = 84000) (hc : cells ≤ R.cells) (hs : slots ≤ R.slots) (hA : ll_A s D cA cL n H locs) (hl : lv_has ls 7 (ll_v s b n))
    (kk : ∀ (H1 : Heap) (locs1 : List Loc), ll_A s D cA cL (n + 1) H1 locs1 → W p l e R s m #[Value.ref b] below meth c H1 locs1 cells slots Q (F0 m 1632 ls [])) : W p l e R s m #[Value.ref b] below meth c H locs cells slots Q (F0 m 1389 ls []) := by
  obtain ⟨h, σ, τ, P, Q0, f, g, hW, hR, h95, hln, hP, hz, hS⟩ := hA
  obtain ⟨r, σ', τ', P', Q', e1, e2, -, hR'⟩ := eq_views hR 
  obtain ⟨h1, hsp1, hl1, hW1⟩ := sp_c hW (t_X10_views (lsC_ok hW) (d := 0) ⟨(r, σ'), e1, rfl, rfl⟩)
  obtain ⟨h2, hsp2, hl2, hW2⟩ := sp_m hW1 (t_X11_views (lsM_ok hW1) (d := 0) ⟨(r, τ'), e2, fun rd => ⟨rfl, rd, rfl⟩⟩)
  have hx := C.1.1
  have hb := C.1.2.1
  refine lv_aload_n (k := 1) hx hb (by decide +kernel) rfl (lv_at hl 1 rfl) ?_
  refine lc_callV (idx := 174) (o := 0) (as := []) (rest := []) (ll_c C) jm_at184 rfl hsp1 hl1 (hW.1 0 (by decide)) ((ll_c C).2.2.2.2.1 _ (by decide +kernel)) (by decide +kernel) (by rw [hRf]; decide) (by rw [hRl]; decide) hc hs hl.1 (Nat.le_of_ble_eq_true rfl) hP hz hS rfl ?_
  intro H1 locs1 hP1 hz1 hS1
  refine lv_aload_n (k := 2) hx hb (by decide +kernel) rfl (lv_at hl 2 rfl) ?_
  refine lc_callV (idx := 177) (o := 65) (as := []) (rest := [.int r]) (ll_c C) jm_at299 rfl hsp2 hl2 (hW1.1 65 (by decide)) ((ll_c C).2.2.2.2.1 _ (by decide +kernel)) (by decide +kernel) (by rw [hRf]; decide) (by rw [hRl]; decide) hc hs hl.1 (Nat.le_of_ble_eq_true rfl) hP1 hz1 hS1 rfl ?_
  intro H2 locs2 hP2 hz2 hS2
  refine lv_icmp_eq (off := 235) (tgt := 1632) hx hb (by decide +kernel) (by decide) (fun _ => ?_) (fun q => absurd rfl q)
  exact kk H2 locs2 ⟨h2, σ', τ', P', Q', f, g, hW2, hR', by rw [hl2, hl1]; exact h95, by rw [hl2, hl1]; exact hln, hP2, hz2, hS2⟩
theorem ll_case36 (C : ll_C p l s m meth c b L xs D cA cL sa) (hL : L ≤ 2560) (hn5 : 5 * n + 5 ≤ L) (hRf : R.frames = 2048) (hRl : R.locals = 84000) (hc : cells ≤ R.cells) (hs : slots ≤ R.slots) (hA : ll_A s D cA cL n H locs) (hl : lv_has ls 7 (ll_v s b n))
    (kk : ∀ (H1 : Heap) (locs1 : List Loc), ll_A s D cA cL (n + 1) H1 locs1 → W p l e R s m #[Value.ref b] below meth c H1 locs1 cells slots Q (F0 m 1632 ls [])) : W p l e R s m #[Value.ref b] below meth c H locs cells slots Q (F0 m 1402 ls []) := by
  obtain ⟨h, σ, τ, P, Q0, f, g, hW, hR, h95, hln, hP, hz, hS⟩ := hA
  obtain ⟨r, σ', τ', P', Q', e1, e2, -, hR'⟩ := eq_editions hR (xs (5 * n + 1))
  obtain ⟨h1, hsp1, hl1, hW1⟩ := sp_c hW (t_X10_editions (lsC_ok hW) (d := 0) ⟨(r, σ'), e1, rfl, rfl⟩)
  obtain ⟨h2, hsp2, hl2, hW2⟩ := sp_m hW1 (t_X11_editions (lsM_ok hW1) (d := 0) ⟨(r, τ'), e2, rfl, _, rfl⟩)
  have hx := C.1.1
  have hb := C.1.2.1
  refine lv_aload_n (k := 1) hx hb (by decide +kernel) rfl (lv_at hl 1 rfl) ?_
  refine ll_arg C hS hl hL 1 (by decide) hn5 (by decide +kernel) ?_
  refine lc_callV (idx := 178) (o := 0) (as := [.int (xs (5 * n + 1))]) (rest := []) (ll_c C) jm_at186 rfl hsp1 hl1 (hW.1 0 (by decide)) ((ll_c C).2.2.2.2.1 _ (by decide +kernel)) (by decide +kernel) (by rw [hRf]; decide) (by rw [hRl]; decide) hc hs hl.1 (Nat.le_of_ble_eq_true rfl) hP hz hS rfl ?_
  intro H1 locs1 hP1 hz1 hS1
  refine lv_aload_n (k := 2) hx hb (by decide +kernel) rfl (lv_at hl 2 rfl) ?_
  refine ll_arg C hS1 hl hL 1 (by decide) hn5 (by decide +kernel) ?_
  refine lc_callV (idx := 181) (o := 65) (as := [.int (xs (5 * n + 1))]) (rest := [.int r]) (ll_c C) jm_at301 rfl hsp2 hl2 (hW1.1 65 (by decide)) ((ll_c C).2.2.2.2.1 _ (by decide +kernel)) (by decide +kernel) (by rw [hRf]; decide) (by rw [hRl]; decide) hc hs hl.1 (Nat.le_of_ble_eq_true rfl) hP1 hz1 hS1 rfl ?_
  intro H2 locs2 hP2 hz2 hS2
  refine lv_icmp_eq (off := 210) (tgt := 1632) hx hb (by decide +kernel) (by decide) (fun _ => ?_) (fun q => absurd rfl q)
  exact kk H2 locs2 ⟨h2, σ', τ', P', Q', f, g, hW2, hR', by rw [hl2, hl1]; exact h95, by rw [hl2, hl1]; exact hln, hP2, hz2, hS2⟩
theorem ll_case37 (C : ll_C p l s m meth c b L xs D cA cL sa) (hL : L ≤ 2560) (hn5 : 5 * n + 5 ≤ L) (hRf : R.frames = 2048) (hRl : R.locals = 84000) (hc : cells ≤ R.cells) (hs : slots ≤ R.slots) (hA : ll_A s D cA cL n H locs) (hl : lv_has ls 7 (ll_v s b n))
    (kk : ∀ (H1 : Heap) (locs1 : List Loc), ll_A s D cA cL (n + 1) H1 locs1 → W p l e R s m #[Value.ref b] below meth c H1 locs1 cells slots Q (F0 m 1632 ls [])) : W p l e R s m #[Value.ref b] below meth c H locs cells slots Q (F0 m 1427 ls []) := by
  obtain ⟨h, σ, τ, P, Q0, f, g, hW, hR, h95, hln, hP, hz, hS⟩ := hA
  obtain ⟨r, σ', τ', P', Q', e1, e2, -, hR'⟩ := eq_kinds hR (xs (5 * n + 1)) (xs (5 * n + 2))
  obtain ⟨h1, hsp1, hl1, hW1⟩ := sp_c hW (t_X10_kinds (lsC_ok hW) (d := 0) ⟨(r, σ'), e1, rfl, rfl⟩)
  obtain ⟨h2, hsp2, hl2, hW2⟩ := sp_m hW1 (t_X11_kinds (lsM_ok hW1) (d := 0) ⟨(r, τ'), e2, rfl, _, rfl⟩)
  have hx := C.1.1
  have hb := C.1.2.1
  refine lv_aload_n (k := 1) hx hb (by decide +kernel) rfl (lv_at hl 1 rfl) ?_
  refine ll_arg C hS hl hL 1 (by decide) hn5 (by decide +kernel) ?_
  refine ll_arg C hS hl hL 2 (by decide) hn5 (by decide +kernel) ?_
  refine lc_callV (idx := 182) (o := 0) (as := [.int (xs (5 * n + 1)), .int (xs (5 * n + 2))]) (rest := []) (ll_c C) jm_at188 rfl hsp1 hl1 (hW.1 0 (by decide)) ((ll_c C).2.2.2.2.1 _ (by decide +kernel)) (by decide +kernel) (by rw [hRf]; decide) (by rw [hRl]; decide) hc hs hl.1 (Nat.le_of_ble_eq_true rfl) hP hz hS rfl ?_
  intro H1 locs1 hP1 hz1 hS1
  refine lv_aload_n (k := 2) hx hb (by decide +kernel) rfl (lv_at hl 2 rfl) ?_
  refine ll_arg C hS1 hl hL 1 (by decide) hn5 (by decide +kernel) ?_
  refine ll_arg C hS1 hl hL 2 (by decide) hn5 (by decide +kernel) ?_
  refine lc_callV (idx := 185) (o := 65) (as := [.int (xs (5 * n + 1)), .int (xs (5 * n + 2))]) (rest := [.int r]) (ll_c C) jm_at302 rfl hsp2 hl2 (hW1.1 65 (by decide)) ((ll_c C).2.2.2.2.1 _ (by decide +kernel)) (by decide +kernel) (by rw [hRf]; decide) (by rw [hRl]; decide) hc hs hl.1 (Nat.le_of_ble_eq_true rfl) hP1 hz1 hS1 rfl ?_
  intro H2 locs2 hP2 hz2 hS2
  refine lv_icmp_eq (off := 173) (tgt := 1632) hx hb (by decide +kernel) (by decide) (fun _ => ?_) (fun q => absurd rfl q)
  exact kk H2 locs2 ⟨h2, σ', τ', P', Q', f, g, hW2, hR', by rw [hl2, hl1]; exact h95, by rw [hl2, hl1]; exact hln, hP2, hz2, hS2⟩
theorem ll_case38 (C : ll_C p l s m meth c b L xs D cA cL sa) (hL : L ≤ 2560) (hn5 : 5 * n + 5 ≤ L) (hRf : R.frames = 2048) (hRl : R.locals = 84000) (hc : cells ≤ R.cells) (hs : slots ≤ R.slots) (hA : ll_A s D cA cL n H locs) (hl : lv_has ls 7 (ll_v s b n))
    (kk : ∀ (H1 : Heap) (locs1 : List Loc), ll_A s D cA cL (n + 1) H1 locs1 → W p l e R s m #[Value.ref b] below meth c H1 locs1 cells slots Q (F0 m 1632 ls [])) : W p l e R s m #[Value.ref b] below meth c H locs cells slots Q (F0 m 1464 ls []) := by
  obtain ⟨h, σ, τ, P, Q0, f, g, hW, hR, h95, hln, hP, hz, hS⟩ := hA
  obtain ⟨r, σ', τ', P', Q', e1, e2, -, hR'⟩ := eq_county hR (xs (5 * n + 1)) (xs (5 * n + 2))
  obtain ⟨h1, hsp1, hl1, hW1⟩ := sp_c hW (t_X10_county (lsC_ok hW) (d := 0) ⟨(r, σ'), e1, rfl, rfl⟩)
  obtain ⟨h2, hsp2, hl2, hW2⟩ := sp_m hW1 (t_X11_county (lsM_ok hW1) (d := 0) ⟨(r, τ'), e2, fun rd => ⟨rfl, rd, rfl⟩⟩)
  have hx := C.1.1
  have hb := C.1.2.1
  refine lv_aload_n (k := 1) hx hb (by decide +kernel) rfl (lv_at hl 1 rfl) ?_
  refine ll_arg C hS hl hL 1 (by decide) hn5 (by decide +kernel) ?_
  refine ll_arg C hS hl hL 2 (by decide) hn5 (by decide +kernel) ?_
  refine lc_callV (idx := 186) (o := 0) (as := [.int (xs (5 * n + 1)), .int (xs (5 * n + 2))]) (rest := []) (ll_c C) jm_at190 rfl hsp1 hl1 (hW.1 0 (by decide)) ((ll_c C).2.2.2.2.1 _ (by decide +kernel)) (by decide +kernel) (by rw [hRf]; decide) (by rw [hRl]; decide) hc hs hl.1 (Nat.le_of_ble_eq_true rfl) hP hz hS rfl ?_
  intro H1 locs1 hP1 hz1 hS1
  refine lv_aload_n (k := 2) hx hb (by decide +kernel) rfl (lv_at hl 2 rfl) ?_
  refine ll_arg C hS1 hl hL 1 (by decide) hn5 (by decide +kernel) ?_
  refine ll_arg C hS1 hl hL 2 (by decide) hn5 (by decide +kernel) ?_
  refine lc_callV (idx := 189) (o := 65) (as := [.int (xs (5 * n + 1)), .int (xs (5 * n + 2))]) (rest := [.int r]) (ll_c C) jm_at304 rfl hsp2 hl2 (hW1.1 65 (by decide)) ((ll_c C).2.2.2.2.1 _ (by decide +kernel)) (by decide +kernel) (by rw [hRf]; decide) (by rw [hRl]; decide) hc hs hl.1 (Nat.le_of_ble_eq_true rfl) hP1 hz1 hS1 rfl ?_
  intro H2 locs2 hP2 hz2 hS2
  refine lv_icmp_eq (off := 136) (tgt := 1632) hx hb (by decide +kernel) (by decide) (fun _ => ?_) (fun q => absurd rfl q)
  exact kk H2 locs2 ⟨h2, σ', τ', P', Q', f, g, hW2, hR', by rw [hl2, hl1]; exact h95, by rw [hl2, hl1]; exact hln, hP2, hz2, hS2⟩
theorem ll_case39 (C : ll_C p l s m meth c b L xs D cA cL sa) (hL : L ≤ 2560) (hn5 : 5 * n + 5 ≤ L) (hRf : R.frames = 2048) (hRl : R.locals = 84000) (hc : cells ≤ R.cells) (hs : slots ≤ R.slots) (hA : ll_A s D cA cL n H locs) (hl : lv_has ls 7 (ll_v s b n))
    (kk : ∀ (H1 : Heap) (locs1 : List Loc), ll_A s D cA cL (n + 1) H1 locs1 → W p l e R s m #[Value.ref b] below meth c H1 locs1 cells slots Q (F0 m 1632 ls [])) : W p l e R s m #[Value.ref b] below meth c H locs cells slots Q (F0 m 1501 ls []) := by
  obtain ⟨h, σ, τ, P, Q0, f, g, hW, hR, h95, hln, hP, hz, hS⟩ := hA
  obtain ⟨r, σ', τ', P', Q', e1, e2, -, hR'⟩ := eq_keep (by omega) hR (xs (5 * n + 1))
  obtain ⟨h1, hsp1, hl1, hW1⟩ := sp_c hW (t_X10_keep (lsC_ok hW) (d := 0) ⟨(r, σ'), e1, rfl, rfl⟩)
  obtain ⟨h2, hsp2, hl2, hW2⟩ := sp_m hW1 (t_X11_keep (lsM_ok hW1) (d := 0) ⟨(r, τ'), e2, rfl, _, rfl⟩)
  have hx := C.1.1
  have hb := C.1.2.1
  refine lv_aload_n (k := 1) hx hb (by decide +kernel) rfl (lv_at hl 1 rfl) ?_
  refine ll_arg C hS hl hL 1 (by decide) hn5 (by decide +kernel) ?_
  refine lc_callV (idx := 190) (o := 0) (as := [.int (xs (5 * n + 1))]) (rest := []) (ll_c C) jm_at194 rfl hsp1 hl1 (hW.1 0 (by decide)) ((ll_c C).2.2.2.2.1 _ (by decide +kernel)) (by decide +kernel) (by rw [hRf]; decide) (by rw [hRl]; decide) hc hs hl.1 (Nat.le_of_ble_eq_true rfl) hP hz hS rfl ?_
  intro H1 locs1 hP1 hz1 hS1
  refine lv_aload_n (k := 2) hx hb (by decide +kernel) rfl (lv_at hl 2 rfl) ?_
  refine ll_arg C hS1 hl hL 1 (by decide) hn5 (by decide +kernel) ?_
  refine lc_callV (idx := 193) (o := 65) (as := [.int (xs (5 * n + 1))]) (rest := [.int r]) (ll_c C) jm_at305 rfl hsp2 hl2 (hW1.1 65 (by decide)) ((ll_c C).2.2.2.2.1 _ (by decide +kernel)) (by decide +kernel) (by rw [hRf]; decide) (by rw [hRl]; decide) hc hs hl.1 (Nat.le_of_ble_eq_true rfl) hP1 hz1 hS1 rfl ?_
  intro H2 locs2 hP2 hz2 hS2
  refine lv_icmp_eq (off := 111) (tgt := 1632) hx hb (by decide +kernel) (by decide) (fun _ => ?_) (fun q => absurd rfl q)
  exact kk H2 locs2 ⟨h2, σ', τ', P', Q', f, g, hW2, hR', by rw [hl2, hl1]; exact h95, by rw [hl2, hl1]; exact hln, hP2, hz2, hS2⟩
theorem ll_case40 (C : ll_C p l s m meth c b L xs D cA cL sa) (hL : L ≤ 2560) (hn5 : 5 * n + 5 ≤ L) (hRf : R.frames = 2048) (hRl : R.locals = 84000) (hc : cells ≤ R.cells) (hs : slots ≤ R.slots) (hA : ll_A s D cA cL n H locs) (hl : lv_has ls 7 (ll_v s b n))
    (kk : ∀ (H1 : Heap) (locs1 : List Loc), ll_A s D cA cL (n + 1) H1 locs1 → W p l e R s m #[Value.ref b] below meth c H1 locs1 cells slots Q (F0 m 1632 ls [])) : W p l e R s m #[Value.ref b] below meth c H locs cells slots Q (F0 m 1526 ls []) := by
  obtain ⟨h, σ, τ, P, Q0, f, g, hW, hR, h95, hln, hP, hz, hS⟩ := hA
  obtain ⟨r, σ', τ', P', Q', e1, e2, -, hR'⟩ := eq_again (by omega) hR (xs (5 * n + 1))
  obtain ⟨h1, hsp1, hl1, hW1⟩ := sp_c hW (t_X10_again (lsC_ok hW) (d := 0) ⟨(r, σ'), e1, rfl, rfl⟩)
  obtain ⟨h2, hsp2, hl2, hW2⟩ := sp_m hW1 (t_X11_again (lsM_ok hW1) (d := 0) ⟨(r, τ'), e2, rfl, _, rfl⟩)
  have hx := C.1.1
  have hb := C.1.2.1
  refine lv_aload_n (k := 1) hx hb (by decide +kernel) rfl (lv_at hl 1 rfl) ?_
  refine ll_arg C hS hl hL 1 (by decide) hn5 (by decide +kernel) ?_
  refine lc_callV (idx := 194) (o := 0) (as := [.int (xs (5 * n + 1))]) (rest := []) (ll_c C) jm_at195 rfl hsp1 hl1 (hW.1 0 (by decide)) ((ll_c C).2.2.2.2.1 _ (by decide +kernel)) (by decide +kernel) (by rw [hRf]; decide) (by rw [hRl]; decide) hc hs hl.1 (Nat.le_of_ble_eq_true rfl) hP hz hS rfl ?_
  intro H1 locs1 hP1 hz1 hS1
  refine lv_aload_n (k := 2) hx hb (by decide +kernel) rfl (lv_at hl 2 rfl) ?_
  refine ll_arg C hS1 hl hL 1 (by decide) hn5 (by decide +kernel) ?_
  refine lc_callV (idx := 197) (o := 65) (as := [.int (xs (5 * n + 1))]) (rest := [.int r]) (ll_c C) jm_at306 rfl hsp2 hl2 (hW1.1 65 (by decide)) ((ll_c C).2.2.2.2.1 _ (by decide +kernel)) (by decide +kernel) (by rw [hRf]; decide) (by rw [hRl]; decide) hc hs hl.1 (Nat.le_of_ble_eq_true rfl) hP1 hz1 hS1 rfl ?_
  intro H2 locs2 hP2 hz2 hS2
  refine lv_icmp_eq (off := 86) (tgt := 1632) hx hb (by decide +kernel) (by decide) (fun _ => ?_) (fun q => absurd rfl q)
  exact kk H2 locs2 ⟨h2, σ', τ', P', Q', f, g, hW2, hR', by rw [hl2, hl1]; exact h95, by rw [hl2, hl1]; exact hln, hP2, hz2, hS2⟩
theorem ll_case41 (C : ll_C p l s m meth c b L xs D cA cL sa) (hL : L ≤ 2560) (hn5 : 5 * n + 5 ≤ L) (hRf : R.frames = 2048) (hRl : R.locals = 84000) (hc : cells ≤ R.cells) (hs : slots ≤ R.slots) (hA : ll_A s D cA cL n H locs) (hl : lv_has ls 7 (ll_v s b n))
    (kk : ∀ (H1 : Heap) (locs1 : List Loc), ll_A s D cA cL (n + 1) H1 locs1 → W p l e R s m #[Value.ref b] below meth c H1 locs1 cells slots Q (F0 m 1632 ls [])) : W p l e R s m #[Value.ref b] below meth c H locs cells slots Q (F0 m 1551 ls []) := by
  obtain ⟨h, σ, τ, P, Q0, f, g, hW, hR, h95, hln, hP, hz, hS⟩ := hA
  obtain ⟨r, σ', τ', P', Q', e1, e2, -, hR'⟩ := eq_count (by omega) hR (xs (5 * n + 1))
  obtain ⟨h1, hsp1, hl1, hW1⟩ := sp_c hW (t_X10_count (lsC_ok hW) (d := 0) ⟨(r, σ'), e1, rfl, rfl⟩)
  obtain ⟨h2, hsp2, hl2, hW2⟩ := sp_m hW1 (t_X11_count (lsM_ok hW1) (d := 0) ⟨(r, τ'), e2, rfl, _, rfl⟩)
  have hx := C.1.1
  have hb := C.1.2.1
  refine lv_aload_n (k := 1) hx hb (by decide +kernel) rfl (lv_at hl 1 rfl) ?_
  refine ll_arg C hS hl hL 1 (by decide) hn5 (by decide +kernel) ?_
  refine lc_callV (idx := 198) (o := 0) (as := [.int (xs (5 * n + 1))]) (rest := []) (ll_c C) jm_at196 rfl hsp1 hl1 (hW.1 0 (by decide)) ((ll_c C).2.2.2.2.1 _ (by decide +kernel)) (by decide +kernel) (by rw [hRf]; decide) (by rw [hRl]; decide) hc hs hl.1 (Nat.le_of_ble_eq_true rfl) hP hz hS rfl ?_
  intro H1 locs1 hP1 hz1 hS1
  refine lv_aload_n (k := 2) hx hb (by decide +kernel) rfl (lv_at hl 2 rfl) ?_
  refine ll_arg C hS1 hl hL 1 (by decide) hn5 (by decide +kernel) ?_
  refine lc_callV (idx := 201) (o := 65) (as := [.int (xs (5 * n + 1))]) (rest := [.int r]) (ll_c C) jm_at307 rfl hsp2 hl2 (hW1.1 65 (by decide)) ((ll_c C).2.2.2.2.1 _ (by decide +kernel)) (by decide +kernel) (by rw [hRf]; decide) (by rw [hRl]; decide) hc hs hl.1 (Nat.le_of_ble_eq_true rfl) hP1 hz1 hS1 rfl ?_
  intro H2 locs2 hP2 hz2 hS2
  refine lv_icmp_eq (off := 61) (tgt := 1632) hx hb (by decide +kernel) (by decide) (fun _ => ?_) (fun q => absurd rfl q)
  exact kk H2 locs2 ⟨h2, σ', τ', P', Q', f, g, hW2, hR', by rw [hl2, hl1]; exact h95, by rw [hl2, hl1]; exact hln, hP2, hz2, hS2⟩
end LLB
