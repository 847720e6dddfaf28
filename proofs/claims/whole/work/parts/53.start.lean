theorem vpcL (cA : ClassId) (n : Nat) : vp_cell cA (n, .inr (.inl (fun _ => 0))) = arrV cA n (fun _ => defaultValue .long) := rfl
theorem nw_in : ∀ w ∈ nwG, w ∈ lw_tbl := by decide +kernel
theorem nw_on : ∀ w ∈ nwG, w.onTables = true := by decide +kernel
theorem nc_in : ∀ q ∈ ncL, Cond.not (.castable q.1 q.2) ∈ flatC (Jvm.Cond.and given_1 narrow_1) := by decide +kernel
theorem sr_in : ∀ q ∈ strsG, Cond.stringRef R_G q.1 q.2 ∈ lw_tbl := by decide +kernel
theorem se_in : ∀ q ∈ strsG, Cond.exactly (.string R_G q.1) "java/lang/String" ∈ flatC (Jvm.Cond.and given_1 narrow_1) := by decide +kernel
theorem law_xs {s : State} {b : Nat} (hts : ∀ w ∈ lw_tbl, w.before #[Value.ref b] s = true) (hgv : (Jvm.Cond.and given_1 narrow_1).before #[Value.ref b] s = true) : xsH (fun q : Nat => s.heap.size ≤ q) s := by
  have hs := flat_of_before _ hgv
  have hA : ∀ a : Nat, a < s.heap.size → ¬ s.heap.size ≤ a := fun a h => Nat.not_le.mpr h
  refine ⟨⟨fun w hw => va_Nw.of (nw_on w hw) (hts w (nw_in w hw)), ?_, ?_, ?_⟩, ?_⟩
  · exact vx_Zqof (hts _ (show Cond.laysStatic Bundle.tN "UNASSIGNED_STACK" Bundle.steD ∈ lw_tbl by decide +kernel)) (hts _ (show Cond.initialized Bundle.tN ∈ lw_tbl by decide +kernel)) (hs _ (show Cond.isRef (.static Bundle.tN "UNASSIGNED_STACK" Bundle.steD) ∈ flatC (Jvm.Cond.and given_1 narrow_1) by decide +kernel)) hA
  · exact vx_Zqof (hts _ (show Cond.laysStatic Bundle.tN "SUPPRESSED_SENTINEL" Bundle.listD ∈ lw_tbl by decide +kernel)) (hts _ (show Cond.initialized Bundle.tN ∈ lw_tbl by decide +kernel)) (hs _ (show Cond.isRef (.static Bundle.tN "SUPPRESSED_SENTINEL" Bundle.listD) ∈ flatC (Jvm.Cond.and given_1 narrow_1) by decide +kernel)) hA
  · intro q hq
    obtain ⟨a, ha⟩ : ∃ a : Addr, (Term.string R_G q.1).eval #[Value.ref b] s none [] s = some (.ref a) := by
      obtain ⟨a, _, _, _, h1, -⟩ := Cond.exactly_spec (hs _ (se_in q hq))
      exact ⟨a, h1⟩
    exact ⟨a, vk_R.of (hts _ (sr_in q hq)) ha⟩
  · exact fun q hq => va_Nc.of (hs _ (nc_in q hq))
set_option maxHeartbeats 16000000 in
set_option maxRecDepth 100000 in
theorem law_start {p : Program} {l : Launch} {e : Env} {s : State} {m : MethodId} {below : List Frame} {meth : Method} {c : Code} {b L : Nat} {xs : Nat → Int32} (hst : l.stackTraces = false) (hL : L ≤ 2048) (C0 : lw_At p s m meth c b L xs) (Inv : Int32 → Int32 → Int32 → Int32 → Int32 → Int32 → Int32 → Int64 → Int64 → (Nat → Int64) → (Nat → Int32) → (Nat → Int32) → (Nat → Int32) → (Nat → Int32) → (Nat → Int32) → (Nat → Int32) → (Nat → Int32) → (Nat → Int32) → (Nat → Int32) → Prop) (hI0 : Inv 0 0 0 0 0 0 0 0 0 (fun _ => 0) (fun _ => 0) (fun _ => 0) (fun _ => 0) (fun _ => 0) (fun _ => 0) (fun _ => 0) (fun _ => 0) (fun _ => 0) (fun _ => 0)) (hstep : ∀ (s0 s1 s2 s3 : Int32) (made : Int32) (size : Int32) (tooG : Int32) (qcode : Int32) (qfuns : Int32) (qmade : Int32) (qgreat : Int32) (qup : Int64) (qdown : Int64) (out : (Nat → Int64)) (kept : (Nat → Int32)) (sizes : (Nat → Int32)) (rows : (Nat → Int32)) (taken : (Nat → Int32)) (qsize : (Nat → Int32)) (qrows : (Nat → Int32)) (qwork : (Nat → Int32)) (qxx : (Nat → Int32)) (qpower : (Nat → Int32)), Inv made size tooG qcode qfuns qmade qgreat qup qdown out kept sizes rows taken qsize qrows qwork qxx qpower → law_it s0 s1 s2 s3 made size tooG qcode qfuns qmade qgreat qup qdown out kept sizes rows taken qsize qrows qwork qxx qpower Inv) : W p l e room_1 s m #[Value.ref b] below meth c s.heap [] 0 0 (lw_Z below #[Value.ref b] s) (entryFrame m ([Value.ref b] : List Value).toArray 8) := by
  obtain ⟨hx, hb, hr, hml, hown, hts, hX, hbl, hlocks, hgv⟩ := id C0
  have hXH := law_xs hts hgv
  have hB : ∀ w ∈ BIG, w.before #[Value.ref b] s = true := fun w h => hts w (List.mem_filter.mp h).1
  have hown : s.vm.findClass R_L = some m.cls := hown
  obtain ⟨A, hAe⟩ : ∃ A : Nat → Prop, A = fun q : Nat => s.heap.size ≤ q := ⟨_, rfl⟩
  rw [← hAe] at hXH
  have hA : ∀ q : Nat, s.heap.size ≤ q → A q := fun q h => by rw [hAe]; exact h
  obtain ⟨x0, y0, hKn0⟩ := u_known (C := R_W) (T := F_W) (N := 4) (n := 4) hB inF_W (hB _ wd_22)
  obtain ⟨x1, y1, hKn1⟩ := u_known (C := R_G) (T := F_G) (N := 4) (n := 4) hB inF_G (hB _ wd_14)
  obtain ⟨x2, y2, hKn2⟩ := u_known (C := R_M) (T := F_M) (N := 11) (n := 11) hB inF_M (hB _ wd_333)
  obtain ⟨D, hKc⟩ : ∃ D : va_G, ∀ (k : Nat) (q : vw_C), vwCl[k]? = some q → u_Kn s q.1 q.2.1 q.2.2 (D.1 k) (D.2 k) := by
    refine ⟨(fun k => if k = 0 then x0 else if k = 1 then x1 else x2, fun k => if k = 0 then y0 else if k = 1 then y1 else y2), ?_⟩
    intro k q hq
    match k, hq with
    | 0, hq => cases hq; exact hKn0
    | 1, hq => cases hq; exact hKn1
    | 2, hq => cases hq; exact hKn2
    | k + 3, hq => simp [vwCl] at hq
  have hS : va_S A s.heap s.heap [] := va_S.rf
  have hK : va_K D vwCl [] s := ⟨hKc, fun k q h => by simp at h⟩
  have hP : va_P D vwCl [] s.heap := fun k q h => by simp at h
  have hD : va_D A [] := ⟨fun i j p q h => by simp at h, fun k q h => by simp at h⟩
  have hl := lv_entry ([.ref b]) (n := 8) (Nat.le_of_ble_eq_true rfl)
  rw [lg_entry_eq]
  generalize (lg_sl ([.ref b]) ++ List.replicate (8 - (lg_sl ([.ref b])).length) Slot.unset).toArray = ls at hl ⊢
  have hl : lv_has ls 8 [(0, .ref b)] := hl
  refine va_new (ci := 1) (fs := [.null, .null, .null, .int 0]) (C := R_G) (T := F_G) (N := 4) hx hb hB inF_G t_G t_G_ok hown (hB _ wd_13) (hB _ wd_14) (hB _ wd_1) hK hP hD hS hA rfl (fun j hj => by rcases (show j = 0 ∨ j = 1 ∨ j = 2 ∨ j = 3 by omega) with rfl | rfl | rfl | rfl <;> rfl) (by show _ ≤ 601024; omega) (by show _ ≤ 7293034; omega) d_L_law_0 (fun a0 H hP hD hS => ?_)
  have hP : va_P D vwCl [(a0, .inr (1, [.null, .null, .null, .int 0]))] H := hP
  have hD : va_D A [(a0, .inr (1, [.null, .null, .null, .int 0]))] := hD
  refine W.widen (k := 1) (n := 4) (by omega) (by omega) ?_
  refine lv_dup hx hb d_L_law_3 rfl ?_
  have hPc := hP.sub (ws' := [(a0, .inr (1, [.null, .null, .null, .int 0]))]) [0] rfl
  have hDc := hD.sub (ws' := [(a0, .inr (1, [.null, .null, .null, .int 0]))]) [0] (by decide) rfl
  have hKc := hK.sub (tys' := []) [] rfl
  have hFc := va_free (wc := [(a0, .inr (1, [.null, .null, .null, .int 0]))]) hD hS hA [0] rfl
  refine va_callv (va_runI (As := []) (rest := [.ref a0]) ⟨hx, hb, hml, hown, hB⟩ (c_G_init l D a0 H.size) (cwI 0 hB (goodB wd_17) rfl rfl rfl (hB _ wd_1) (hB _ wd_15) (hB _ wd_16) rfl (by decide +kernel) ⟨Nat.le_of_ble_eq_true rfl, Nat.le_of_ble_eq_true rfl⟩) ⟨pcG_blind, pcG_pre hPc hKc hDc trivial⟩ rfl rfl hl.1 rfl (lv_room (Nat.le_of_ble_eq_true rfl)) d_L_law_4 ⟨by show _ ≤ 601024; omega, by show _ ≤ 7293034; omega⟩) hS (fun q _ h => hFc q h) hFc (fun u t H1 locs ht hvm hw hBu hz1 hk1 hS => ?_)
  obtain ⟨a1, a2, a3, a4, a5, c1, c2, c4, c5⟩ := u
  obtain ⟨hP1, hK1, hD1⟩ := hBu
  rw [ht] at hP1
  have hK1 := va_K.moved hvm.symm hK1
  try dsimp only at hP1 hK1 hD1
  obtain ⟨hP, hD⟩ := va_join (wr := []) (w1 := (wG a0 a1 a2 a3 a4 a5 c1 c2 c4 c5 0 0 0 (fun _ => 0) (fun _ => 0) (fun _ => 0) (fun _ => 0))) hP hD [0] [] rfl rfl (by decide) (by decide) hk1 hFc hP1 hD1
  have hK := hK.app hK1
  generalize H1 = H at hP hS ⊢
  refine W.widen (k := 6) (n := 6395) (by omega) (by omega) ?_
  have hP : va_P D vwCl (wG a0 a1 a2 a3 a4 a5 c1 c2 c4 c5 0 0 0 (fun _ => 0) (fun _ => 0) (fun _ => 0) (fun _ => 0)) H := hP
  have hD : va_D A (wG a0 a1 a2 a3 a4 a5 c1 c2 c4 c5 0 0 0 (fun _ => 0) (fun _ => 0) (fun _ => 0) (fun _ => 0)) := hD
  have hK : va_K D vwCl [(c1, .int), (c2, .int), (c4, .int), (c5, .int)] s := hK
  refine lv_astore_n (lv' := [(1, .ref a0), (0, .ref b)]) hx hb d_L_law_7 rfl hl (by decide) rfl (fun ls hl => ?_)
  refine va_new (ci := 2) (fs := [.int 0, .int 0, .null, .null, .int 0, .null, .int 0, .null, .null, .long 0, .long 0]) (C := R_M) (T := F_M) (N := 11) hx hb hB inF_M t_M t_M_ok hown (hB _ wd_332) (hB _ wd_333) (hB _ wd_3) hK hP hD hS hA rfl (fun j hj => by rcases (show j = 0 ∨ j = 1 ∨ j = 2 ∨ j = 3 ∨ j = 4 ∨ j = 5 ∨ j = 6 ∨ j = 7 ∨ j = 8 ∨ j = 9 ∨ j = 10 by omega) with rfl | rfl | rfl | rfl | rfl | rfl | rfl | rfl | rfl | rfl | rfl <;> rfl) (by show _ ≤ 601024; omega) (by show _ ≤ 7293034; omega) d_L_law_8 (fun m0 H hP hD hS => ?_)
  refine W.widen (k := 7) (n := 6406) (by omega) (by omega) ?_
  refine lv_dup hx hb d_L_law_11 rfl ?_
  have hPc := hP.sub (ws' := [(m0, .inr (2, [.int 0, .int 0, .null, .null, .int 0, .null, .int 0, .null, .null, .long 0, .long 0]))]) [6] rfl
  have hDc := hD.sub (ws' := [(m0, .inr (2, [.int 0, .int 0, .null, .null, .int 0, .null, .int 0, .null, .null, .long 0, .long 0]))]) [6] (by decide) rfl
  have hKc := hK.sub (tys' := []) [] rfl
  have hFc := va_free (wc := [(m0, .inr (2, [.int 0, .int 0, .null, .null, .int 0, .null, .int 0, .null, .null, .long 0, .long 0]))]) hD hS hA [6] rfl
  refine va_callv (va_runI (As := []) (rest := [.ref m0]) ⟨hx, hb, hml, hown, hB⟩ (c_M_init l D m0 H.size) (cwI 0 hB (goodB wd_336) rfl rfl rfl (hB _ wd_3) (hB _ wd_334) (hB _ wd_335) rfl (by decide +kernel) ⟨Nat.le_of_ble_eq_true rfl, Nat.le_of_ble_eq_true rfl⟩) ⟨pcG_blind, pcG_pre hPc hKc hDc trivial⟩ rfl rfl hl.1 rfl (lv_room (Nat.le_of_ble_eq_true rfl)) d_L_law_12 ⟨by show _ ≤ 601024; omega, by show _ ≤ 7293034; omega⟩) hS (fun q _ h => hFc q h) hFc (fun u t H1 locs ht hvm hw hBu hz1 hk1 hS => ?_)
  obtain ⟨m1, m2, m3, m4, m5, k1, k2, k3, k4, k5⟩ := u
  obtain ⟨hP1, hK1, hD1⟩ := hBu
  rw [ht] at hP1
  have hK1 := va_K.moved hvm.symm hK1
  try dsimp only at hP1 hK1 hD1
  obtain ⟨hP, hD⟩ := va_join (wr := (wG a0 a1 a2 a3 a4 a5 c1 c2 c4 c5 0 0 0 (fun _ => 0) (fun _ => 0) (fun _ => 0) (fun _ => 0))) (w1 := (wM m0 m1 m2 m3 m4 m5 k1 k2 k3 k4 k5 0 0 0 0 0 0 (fun _ => 0) (fun _ => 0) (fun _ => 0) (fun _ => 0) (fun _ => 0))) hP hD [6] [0, 1, 2, 3, 4, 5] rfl rfl (by decide) (by decide) hk1 hFc hP1 hD1
  have hK := hK.app hK1
  generalize H1 = H at hP hS ⊢
  refine W.widen (k := 12) (n := 12938) (by omega) (by omega) ?_
  refine lv_astore_n (lv' := [(2, .ref m0), (1, .ref a0), (0, .ref b)]) hx hb d_L_law_15 rfl hl (by decide) rfl (fun ls hl => ?_)
  refine lv_iconst (v := 1) hx hb d_L_law_16 (by decide) ?_
  refine va_newa (atype := .long) (ty := .long) hx hb (hB _ wd_488) rfl hK hP hD hS hA (N' := 1) (a0 := (1, .inr (.inl (fun _ => 0)))) (fun cA => vpcL cA _) (by decide +kernel) (by decide +kernel) (by decide +kernel) (by show _ ≤ 601024; omega) (by show _ ≤ 7293034; omega) d_L_law_17 (fun o0 co H hK hP hD hS => ?_)
  refine W.widen (k := 13 + 4 * 0) (n := 12939 + 24 * 0) (by omega) (by omega) ?_
  refine lv_astore_n (lv' := [(3, .ref o0), (2, .ref m0), (1, .ref a0), (0, .ref b)]) hx hb d_L_law_19 rfl hl (by decide) rfl (fun ls hl => ?_)
  refine lv_iconst (v := 0) hx hb d_L_law_20 (by decide) ?_
  refine lv_istore (lv' := [(4, .int 0), (3, .ref o0), (2, .ref m0), (1, .ref a0), (0, .ref b)]) hx hb d_L_law_21 hl (by decide) rfl (fun ls hl => ?_)
  have hP : va_P D vwCl (wL o0 a0 a1 a2 a3 a4 a5 m0 m1 m2 m3 m4 m5 co c1 c2 c4 c5 k1 k2 k3 k4 k5 0 0 0 0 0 0 0 0 0 (fun _ => 0) (fun _ => 0) (fun _ => 0) (fun _ => 0) (fun _ => 0) (fun _ => 0) (fun _ => 0) (fun _ => 0) (fun _ => 0) (fun _ => 0)) H := hP.sub [12, 0, 1, 2, 3, 4, 5, 6, 7, 8, 9, 10, 11] rfl
  have hD : va_D A (wL o0 a0 a1 a2 a3 a4 a5 m0 m1 m2 m3 m4 m5 co c1 c2 c4 c5 k1 k2 k3 k4 k5 0 0 0 0 0 0 0 0 0 (fun _ => 0) (fun _ => 0) (fun _ => 0) (fun _ => 0) (fun _ => 0) (fun _ => 0) (fun _ => 0) (fun _ => 0) (fun _ => 0) (fun _ => 0)) := hD.sub [12, 0, 1, 2, 3, 4, 5, 6, 7, 8, 9, 10, 11] (by decide) rfl
  have hK : va_K D vwCl [(co, .long), (c1, .int), (c2, .int), (c4, .int), (c5, .int), (k1, .int), (k2, .int), (k3, .int), (k4, .int), (k5, .int)] s := hK.sub [9, 0, 1, 2, 3, 4, 5, 6, 7, 8] rfl
  exact law_loop hst hL C0 hAe hXH hK Inv hstep (L + 1) 0 0 0 0 0 0 0 0 0 0 0 (fun _ => 0) (fun _ => 0) (fun _ => 0) (fun _ => 0) (fun _ => 0) (fun _ => 0) (fun _ => 0) (fun _ => 0) (fun _ => 0) (fun _ => 0) _ _ _ (by omega) (by omega) nI_0.symm hI0 hP hD hS (lv_sub hl [4, 3, 2, 1, 0] rfl)
