set_option maxHeartbeats 16000000 in
set_option maxRecDepth 100000 in
theorem law_loop {p : Program} {l : Launch} {e : Env} {s : State} {m : MethodId} {below : List Frame} {meth : Method} {c : Code} {D : va_G} {o0 a0 a1 a2 a3 a4 a5 m0 m1 m2 m3 m4 m5 : Nat} {co c1 c2 c4 c5 k1 k2 k3 k4 k5 : ClassId} {b L : Nat} {xs : Nat → Int32} {A : Nat → Prop} (hst : l.stackTraces = false) (hL : L ≤ 2048) (C0 : lw_At p s m meth c b L xs) (hAe : A = fun q : Nat => s.heap.size ≤ q) (hXH : xsH A s) (hK : va_K D vwCl [(co, .long), (c1, .int), (c2, .int), (c4, .int), (c5, .int), (k1, .int), (k2, .int), (k3, .int), (k4, .int), (k5, .int)] s) (Inv : Int32 → Int32 → Int32 → Int32 → Int32 → Int32 → Int32 → Int64 → Int64 → (Nat → Int64) → (Nat → Int32) → (Nat → Int32) → (Nat → Int32) → (Nat → Int32) → (Nat → Int32) → (Nat → Int32) → (Nat → Int32) → (Nat → Int32) → (Nat → Int32) → Prop) (hstep : ∀ (s0 s1 s2 s3 : Int32) (made : Int32) (size : Int32) (tooG : Int32) (qcode : Int32) (qfuns : Int32) (qmade : Int32) (qgreat : Int32) (qup : Int64) (qdown : Int64) (out : (Nat → Int64)) (kept : (Nat → Int32)) (sizes : (Nat → Int32)) (rows : (Nat → Int32)) (taken : (Nat → Int32)) (qsize : (Nat → Int32)) (qrows : (Nat → Int32)) (qwork : (Nat → Int32)) (qxx : (Nat → Int32)) (qpower : (Nat → Int32)), Inv made size tooG qcode qfuns qmade qgreat qup qdown out kept sizes rows taken qsize qrows qwork qxx qpower → law_it s0 s1 s2 s3 made size tooG qcode qfuns qmade qgreat qup qdown out kept sizes rows taken qsize qrows qwork qxx qpower Inv) :
    ∀ (n k : Nat) (x4 : Int32) (made : Int32) (size : Int32) (tooG : Int32) (qcode : Int32) (qfuns : Int32) (qmade : Int32) (qgreat : Int32) (qup : Int64) (qdown : Int64) (out : (Nat → Int64)) (kept : (Nat → Int32)) (sizes : (Nat → Int32)) (rows : (Nat → Int32)) (taken : (Nat → Int32)) (qsize : (Nat → Int32)) (qrows : (Nat → Int32)) (qwork : (Nat → Int32)) (qxx : (Nat → Int32)) (qpower : (Nat → Int32)) (H : Heap) (locs : List Loc) (ls : Array Slot), 4 * k ≤ L → L + 4 ≤ 4 * (k + n) → x4 = nI (4 * k) → Inv made size tooG qcode qfuns qmade qgreat qup qdown out kept sizes rows taken qsize qrows qwork qxx qpower → va_P D vwCl (wL o0 a0 a1 a2 a3 a4 a5 m0 m1 m2 m3 m4 m5 co c1 c2 c4 c5 k1 k2 k3 k4 k5 made size tooG qcode qfuns qmade qgreat qup qdown out kept sizes rows taken qsize qrows qwork qxx qpower) H → va_D A (wL o0 a0 a1 a2 a3 a4 a5 m0 m1 m2 m3 m4 m5 co c1 c2 c4 c5 k1 k2 k3 k4 k5 made size tooG qcode qfuns qmade qgreat qup qdown out kept sizes rows taken qsize qrows qwork qxx qpower) → va_S A s.heap H locs → lv_has ls 8 [(0, .ref b), (1, .ref a0), (2, .ref m0), (3, .ref o0), (4, .int x4)] → W p l e room_1 s m #[Value.ref b] below meth c H locs (13 + 4 * k) (12939 + 24 * k) (lw_Z below #[Value.ref b] s) (F0 m 23 ls []) := by
  obtain ⟨hx, hb, hr, hml, hown, hts, hX, hbl, hlocks, hgv⟩ := C0
  have hB : ∀ w ∈ BIG, w.before #[Value.ref b] s = true := fun w h => hts w (List.mem_filter.mp h).1
  have hA : ∀ q : Nat, s.heap.size ≤ q → A q := fun q h => by rw [hAe]; exact h
  have hbA : ¬ A b := by rw [hAe]; exact Nat.not_le.mpr hbl
  have hown : s.vm.findClass R_L = some m.cls := hown
  intro n
  induction n with
  | zero => intro k x4 made size tooG qcode qfuns qmade qgreat qup qdown out kept sizes rows taken qsize qrows qwork qxx qpower H locs ls h1 h2; exact absurd h2 (by omega)
  | succ n ihn =>
    intro k x4 made size tooG qcode qfuns qmade qgreat qup qdown out kept sizes rows taken qsize qrows qwork qxx qpower H locs ls hk hkn ex4 hI hP hD hS hl
    refine lv_iload hx hb d_L_law_23 (lv_at hl 4 rfl) ?_
    refine lv_aload_n hx hb d_L_law_25 rfl (lv_at hl 0 rfl) ?_
    refine va_slen hx hb hX hbl hbA hS d_L_law_26 ?_
    refine lv_iconst (v := 4) hx hb d_L_law_27 (by decide) ?_
    refine lv_isub hx hb d_L_law_28 ?_
    refine lv_icmp_gt (tgt := 1233) hx hb d_L_law_29 (by decide) (fun cE => ?_) (fun cE => ?_)
    · refine lv_iconst (v := 1) hx hb d_L_law_1233 (by decide) ?_
      refine va_forget (fun q hq => by have := hS.2.2 q hq; rw [hAe] at this; exact this) ?_
      refine W.widen (k := 601024) (n := 7293034) (by omega) (by omega) ?_
      exact lw_ret hx hb hr hlocks d_L_law_1234
    · have h4 : 4 * k + 4 ≤ L := law_in hL hk (by rw [← ex4]; exact cE)
      have hi0 : vp_in x4 L := by rw [ex4]; exact vp_in_nI (by omega) (by omega)
      obtain ⟨s0, es0⟩ : ∃ z : Int32, z = xs (x4).toNatClampNeg := ⟨_, rfl⟩
      have hi1 : vp_in (x4 + 1) L := by rw [ex4]; exact law_vp hL (by omega : 4 * k + 1 < L)
      obtain ⟨s1, es1⟩ : ∃ z : Int32, z = xs (x4 + 1).toNatClampNeg := ⟨_, rfl⟩
      have hi2 : vp_in (x4 + 2) L := by rw [ex4]; exact law_vp hL (by omega : 4 * k + 2 < L)
      obtain ⟨s2, es2⟩ : ∃ z : Int32, z = xs (x4 + 2).toNatClampNeg := ⟨_, rfl⟩
      have hi3 : vp_in (x4 + 3) L := by rw [ex4]; exact law_vp hL (by omega : 4 * k + 3 < L)
      obtain ⟨s3, es3⟩ : ∃ z : Int32, z = xs (x4 + 3).toNatClampNeg := ⟨_, rfl⟩
      have h := hstep s0 s1 s2 s3 made size tooG qcode qfuns qmade qgreat qup qdown out kept sizes rows taken qsize qrows qwork qxx qpower hI
      unfold law_it at h
      refine lv_aload_n hx hb d_L_law_32 rfl (lv_at hl 0 rfl) ?_
      refine lv_iload hx hb d_L_law_33 (lv_at hl 4 rfl) ?_
      refine va_sld hx hb hX hbl hbA hS hi0 d_L_law_35 ?_
      rw [← es0]
      refine lv_bipush (v := 31) hx hb d_L_law_36 (by decide) ?_
      refine lv_iand hx hb d_L_law_38 ?_
      refine lv_topi (fun sw esw => ?_)
      replace h := h sw esw
      by_cases t0 : sw = 0
      · replace h := h.1 t0
        clear esw
        subst t0
        refine lv_tableIn (off := 85) (tgt := 124) hx hb d_L_law_39 (by decide) (by decide) (by decide +kernel) (by decide) ?_
        refine lv_aload_n hx hb d_L_law_124 rfl (lv_at hl 1 rfl) ?_
        refine lv_aload_n hx hb d_L_law_125 rfl (lv_at hl 0 rfl) ?_
        refine lv_iload hx hb d_L_law_126 (lv_at hl 4 rfl) ?_
        refine lv_iconst (v := 1) hx hb d_L_law_128 (by decide) ?_
        refine lv_iadd hx hb d_L_law_129 ?_
        refine va_sld hx hb hX hbl hbA hS hi1 d_L_law_130 ?_
        rw [← es1]
        refine lv_aload_n hx hb d_L_law_131 rfl (lv_at hl 0 rfl) ?_
        refine lv_iload hx hb d_L_law_132 (lv_at hl 4 rfl) ?_
        refine lv_iconst (v := 2) hx hb d_L_law_134 (by decide) ?_
        refine lv_iadd hx hb d_L_law_135 ?_
        refine va_sld hx hb hX hbl hbA hS hi2 d_L_law_136 ?_
        rw [← es2]
        refine lv_aload_n hx hb d_L_law_137 rfl (lv_at hl 3 rfl) ?_
        have hPc := hP.sub (ws' := (wO o0 a0 a1 a2 a3 a4 a5 co c1 c2 c4 c5 made size tooG out kept sizes rows taken)) [0, 1, 2, 3, 4, 5, 6] rfl
        have hDc := hD.sub (ws' := (wO o0 a0 a1 a2 a3 a4 a5 co c1 c2 c4 c5 made size tooG out kept sizes rows taken)) [0, 1, 2, 3, 4, 5, 6] (by decide) rfl
        have hKc := hK.sub (tys' := [(co, .long), (c1, .int), (c2, .int), (c4, .int), (c5, .int)]) [0, 1, 2, 3, 4] rfl
        have hFc := va_free (wc := (wO o0 a0 a1 a2 a3 a4 a5 co c1 c2 c4 c5 made size tooG out kept sizes rows taken)) hD hS hA [0, 1, 2, 3, 4, 5, 6] rfl
        refine va_calli (vx_runSW (As := [.ref a0, .int s1, .int s2, .ref o0]) (rest := []) ⟨hx, hb, hml, hown, hB⟩ (c_L_number l D o0 a0 a1 a2 a3 a4 a5 co c1 c2 c4 c5 H.size made size tooG out kept sizes rows taken s1 s2 _ hst) (vx_cwSW 4 hB (goodSW wd_43 wd_44 wd_0 wd_45) rfl rfl rfl (by decide +kernel) ⟨Nat.le_of_ble_eq_true rfl, Nat.le_of_ble_eq_true rfl⟩) ⟨pcH_blind, pcH_pre hPc hKc hDc hS hXH hFc h⟩ rfl rfl hl.1 rfl (lv_room (Nat.le_of_ble_eq_true rfl)) d_L_law_138 ⟨by show _ ≤ 601024; omega, by show _ ≤ 7293034; omega⟩) hS (fun q _ h => hFc q h) hFc (fun r1 u t H1 locs ht hvm h hBu hz1 hk1 hS => ?_)
        obtain ⟨made_2, size_3, tooG_4, out_5, kept_6, sizes_7, rows_8, taken_9⟩ := u
        obtain ⟨hP1, hK1, hD1⟩ := hBu
        rw [ht] at hP1
        obtain ⟨hP, hD⟩ := va_join (wr := [(m0, .inr (2, [.int qcode, .int qfuns, .ref m1, .ref m2, .int qmade, .ref m3, .int qgreat, .ref m4, .ref m5, .long qup, .long qdown])), (m1, .inl (k1, 80, .inl qsize)), (m2, .inl (k2, 5600, .inl qrows)), (m3, .inl (k3, 840, .inl qwork)), (m4, .inl (k4, 7, .inl qxx)), (m5, .inl (k5, 5, .inl qpower))]) (w1 := (wO o0 a0 a1 a2 a3 a4 a5 co c1 c2 c4 c5 made_2 size_3 tooG_4 out_5 kept_6 sizes_7 rows_8 taken_9)) hP hD [0, 1, 2, 3, 4, 5, 6] [7, 8, 9, 10, 11, 12] rfl rfl (by decide) (by decide) hk1 hFc hP1 hD1
        generalize H1 = H at hP hS ⊢
        have hP : va_P D vwCl (wL o0 a0 a1 a2 a3 a4 a5 m0 m1 m2 m3 m4 m5 co c1 c2 c4 c5 k1 k2 k3 k4 k5 made_2 size_3 tooG_4 qcode qfuns qmade qgreat qup qdown out_5 kept_6 sizes_7 rows_8 taken_9 qsize qrows qwork qxx qpower) H := hP.sub [6, 7, 8, 9, 10, 11, 12, 0, 1, 2, 3, 4, 5] rfl
        have hD : va_D A (wL o0 a0 a1 a2 a3 a4 a5 m0 m1 m2 m3 m4 m5 co c1 c2 c4 c5 k1 k2 k3 k4 k5 made_2 size_3 tooG_4 qcode qfuns qmade qgreat qup qdown out_5 kept_6 sizes_7 rows_8 taken_9 qsize qrows qwork qxx qpower) := hD.sub [6, 7, 8, 9, 10, 11, 12, 0, 1, 2, 3, 4, 5] (by decide) rfl
        refine W.widen (k := 13 + 4 * (k + 1)) (n := 12939 + 24 * (k + 1)) (by omega) (by omega) ?_
        refine lv_istore (lv' := [(5, .int r1), (0, .ref b), (1, .ref a0), (2, .ref m0), (3, .ref o0), (4, .int x4)]) hx hb d_L_law_141 hl (by decide) rfl (fun ls hl => ?_)
        refine lv_aload_n hx hb d_L_law_143 rfl (lv_at hl 3 rfl) ?_
        refine lv_aload_n hx hb d_L_law_144 rfl (lv_at hl 1 rfl) ?_
        refine lv_iload hx hb d_L_law_145 (lv_at hl 5 rfl) ?_
        refine lv_iconst (v := 1) hx hb d_L_law_147 (by decide) ?_
        refine lv_iadd hx hb d_L_law_148 ?_
        refine va_sld hx hb hX hbl hbA hS hi1 d_L_law_149 ?_
        rw [← es1]
        refine lv_aload_n hx hb d_L_law_150 rfl (lv_at hl 1 rfl) ?_
        refine lv_iload hx hb d_L_law_151 (lv_at hl 5 rfl) ?_
        refine lv_iconst (v := 2) hx hb d_L_law_153 (by decide) ?_
        refine lv_iadd hx hb d_L_law_154 ?_
        refine va_sld hx hb hX hbl hbA hS hi2 d_L_law_155 ?_
        rw [← es2]
        have hPc := hP.sub (ws' := (wM m0 m1 m2 m3 m4 m5 k1 k2 k3 k4 k5 qcode qfuns qmade qgreat qup qdown qsize qrows qwork qxx qpower)) [7, 8, 9, 10, 11, 12] rfl
        have hDc := hD.sub (ws' := (wM m0 m1 m2 m3 m4 m5 k1 k2 k3 k4 k5 qcode qfuns qmade qgreat qup qdown qsize qrows qwork qxx qpower)) [7, 8, 9, 10, 11, 12] (by decide) rfl
        have hKc := hK.sub (tys' := [(k1, .int), (k2, .int), (k3, .int), (k4, .int), (k5, .int)]) [5, 6, 7, 8, 9] rfl
        have hFc := va_free (wc := (wM m0 m1 m2 m3 m4 m5 k1 k2 k3 k4 k5 qcode qfuns qmade qgreat qup qdown qsize qrows qwork qxx qpower)) hD hS hA [7, 8, 9, 10, 11, 12] rfl
        refine va_calli (va_runV (As := [.int s1, .int s2]) (rest := []) ⟨hx, hb, hml, hown, hB⟩ (c_M_number l D m0 m1 m2 m3 m4 m5 k1 k2 k3 k4 k5 H.size qcode qfuns qmade qgreat qup qdown qsize qrows qwork qxx qpower s1 s2 _) (cwV 2 hB (goodV wd_353 wd_354 wd_355 wd_3 wd_356) rfl rfl rfl (by decide +kernel) ⟨Nat.le_of_ble_eq_true rfl, Nat.le_of_ble_eq_true rfl⟩) ⟨pcG_blind, va_recv hKc hPc (ci := 2) (q0 := 0) rfl rfl, pcG_pre hPc hKc hDc h⟩ rfl rfl hl.1 rfl (lv_room (Nat.le_of_ble_eq_true rfl)) d_L_law_156 ⟨by show _ ≤ 601024; omega, by show _ ≤ 7293034; omega⟩) hS (fun q _ h => hFc q h) hFc (fun r10 u t H1 locs ht hvm h hBu hz1 hk1 hS => ?_)
        obtain ⟨qcode_11, qfuns_12, qmade_13, qgreat_14, qup_15, qdown_16, qsize_17, qrows_18, qwork_19, qxx_20⟩ := u
        obtain ⟨hP1, hK1, hD1⟩ := hBu
        rw [ht] at hP1
        obtain ⟨hP, hD⟩ := va_join (wr := [(o0, .inl (co, 1, .inr (.inl out_5))), (a0, .inr (1, [.ref a1, .ref a2, .ref a3, .int made_2])), (a1, .inl (c1, 5600, .inl kept_6)), (a2, .inl (c2, 80, .inl sizes_7)), (a3, .inr (0, [.ref a4, .ref a5, .int size_3, .int tooG_4])), (a4, .inl (c4, 700, .inl rows_8)), (a5, .inl (c5, 7, .inl taken_9))]) (w1 := (wM m0 m1 m2 m3 m4 m5 k1 k2 k3 k4 k5 qcode_11 qfuns_12 qmade_13 qgreat_14 qup_15 qdown_16 qsize_17 qrows_18 qwork_19 qxx_20 qpower)) hP hD [7, 8, 9, 10, 11, 12] [0, 1, 2, 3, 4, 5, 6] rfl rfl (by decide) (by decide) hk1 hFc hP1 hD1
        generalize H1 = H at hP hS ⊢
        have hP : va_P D vwCl (wL o0 a0 a1 a2 a3 a4 a5 m0 m1 m2 m3 m4 m5 co c1 c2 c4 c5 k1 k2 k3 k4 k5 made_2 size_3 tooG_4 qcode_11 qfuns_12 qmade_13 qgreat_14 qup_15 qdown_16 out_5 kept_6 sizes_7 rows_8 taken_9 qsize_17 qrows_18 qwork_19 qxx_20 qpower) H := hP.sub [0, 1, 2, 3, 4, 5, 6, 7, 8, 9, 10, 11, 12] rfl
        have hD : va_D A (wL o0 a0 a1 a2 a3 a4 a5 m0 m1 m2 m3 m4 m5 co c1 c2 c4 c5 k1 k2 k3 k4 k5 made_2 size_3 tooG_4 qcode_11 qfuns_12 qmade_13 qgreat_14 qup_15 qdown_16 out_5 kept_6 sizes_7 rows_8 taken_9 qsize_17 qrows_18 qwork_19 qxx_20 qpower) := hD.sub [0, 1, 2, 3, 4, 5, 6, 7, 8, 9, 10, 11, 12] (by decide) rfl
        refine W.widen (k := 13 + 4 * (k + 1)) (n := 12939 + 24 * (k + 1)) (by omega) (by omega) ?_
        refine lv_istore (lv' := [(6, .int r10), (5, .int r1), (0, .ref b), (1, .ref a0), (2, .ref m0), (3, .ref o0), (4, .int x4)]) hx hb d_L_law_159 hl (by decide) rfl (fun ls hl => ?_)
        refine lv_aload_n hx hb d_L_law_161 rfl (lv_at hl 4 rfl) ?_
        have hPc := hP.sub (ws' := (wM m0 m1 m2 m3 m4 m5 k1 k2 k3 k4 k5 qcode_11 qfuns_12 qmade_13 qgreat_14 qup_15 qdown_16 qsize_17 qrows_18 qwork_19 qxx_20 qpower)) [7, 8, 9, 10, 11, 12] rfl
        have hDc := hD.sub (ws' := (wM m0 m1 m2 m3 m4 m5 k1 k2 k3 k4 k5 qcode_11 qfuns_12 qmade_13 qgreat_14 qup_15 qdown_16 qsize_17 qrows_18 qwork_19 qxx_20 qpower)) [7, 8, 9, 10, 11, 12] (by decide) rfl
        have hKc := hK.sub (tys' := [(k1, .int), (k2, .int), (k3, .int), (k4, .int), (k5, .int)]) [5, 6, 7, 8, 9] rfl
        have hFc := va_free (wc := (wM m0 m1 m2 m3 m4 m5 k1 k2 k3 k4 k5 qcode_11 qfuns_12 qmade_13 qgreat_14 qup_15 qdown_16 qsize_17 qrows_18 qwork_19 qxx_20 qpower)) hD hS hA [7, 8, 9, 10, 11, 12] rfl
        refine va_calli (va_runV (As := []) (rest := []) ⟨hx, hb, hml, hown, hB⟩ (c_M_thrown l D m0 m1 m2 m3 m4 m5 k1 k2 k3 k4 k5 H.size qcode_11 qfuns_12 qmade_13 qgreat_14 qup_15 qdown_16 qsize_17 qrows_18 qwork_19 qxx_20 qpower _) (cwV 0 hB (goodV wd_349 wd_350 wd_351 wd_3 wd_352) rfl rfl rfl (by decide +kernel) ⟨Nat.le_of_ble_eq_true rfl, Nat.le_of_ble_eq_true rfl⟩) ⟨pcG_blind, va_recv hKc hPc (ci := 2) (q0 := 0) rfl rfl, pcG_pre hPc hKc hDc h⟩ rfl rfl hl.1 rfl (lv_room (Nat.le_of_ble_eq_true rfl)) d_L_law_162 ⟨by show _ ≤ 601024; omega, by show _ ≤ 7293034; omega⟩) hS (fun q _ h => hFc q h) hFc (fun r21 u t H1 locs ht hvm h hBu hz1 hk1 hS => ?_)
        obtain ⟨hP1, hK1, hD1⟩ := hBu
        rw [ht] at hP1
        obtain ⟨hP, hD⟩ := va_join (wr := [(o0, .inl (co, 1, .inr (.inl out_5))), (a0, .inr (1, [.ref a1, .ref a2, .ref a3, .int made_2])), (a1, .inl (c1, 5600, .inl kept_6)), (a2, .inl (c2, 80, .inl sizes_7)), (a3, .inr (0, [.ref a4, .ref a5, .int size_3, .int tooG_4])), (a4, .inl (c4, 700, .inl rows_8)), (a5, .inl (c5, 7, .inl taken_9))]) (w1 := (wM m0 m1 m2 m3 m4 m5 k1 k2 k3 k4 k5 qcode_11 qfuns_12 qmade_13 qgreat_14 qup_15 qdown_16 qsize_17 qrows_18 qwork_19 qxx_20 qpower)) hP hD [7, 8, 9, 10, 11, 12] [0, 1, 2, 3, 4, 5, 6] rfl rfl (by decide) (by decide) hk1 hFc hP1 hD1
        generalize H1 = H at hP hS ⊢
        have hP : va_P D vwCl (wL o0 a0 a1 a2 a3 a4 a5 m0 m1 m2 m3 m4 m5 co c1 c2 c4 c5 k1 k2 k3 k4 k5 made_2 size_3 tooG_4 qcode_11 qfuns_12 qmade_13 qgreat_14 qup_15 qdown_16 out_5 kept_6 sizes_7 rows_8 taken_9 qsize_17 qrows_18 qwork_19 qxx_20 qpower) H := hP.sub [0, 1, 2, 3, 4, 5, 6, 7, 8, 9, 10, 11, 12] rfl
        have hD : va_D A (wL o0 a0 a1 a2 a3 a4 a5 m0 m1 m2 m3 m4 m5 co c1 c2 c4 c5 k1 k2 k3 k4 k5 made_2 size_3 tooG_4 qcode_11 qfuns_12 qmade_13 qgreat_14 qup_15 qdown_16 out_5 kept_6 sizes_7 rows_8 taken_9 qsize_17 qrows_18 qwork_19 qxx_20 qpower) := hD.sub [0, 1, 2, 3, 4, 5, 6, 7, 8, 9, 10, 11, 12] (by decide) rfl
        refine W.widen (k := 13 + 4 * (k + 1)) (n := 12939 + 24 * (k + 1)) (by omega) (by omega) ?_
        refine lv_iload hx hb d_L_law_165 (lv_at hl 1 rfl) ?_
        refine lv_icmp_eq (tgt := 172) hx hb d_L_law_167 (by decide) (fun hc22 => ?_) (fun hc22 => ?_)
        · replace h := h.1 hc22
          refine lv_iload hx hb d_L_law_172 (lv_at hl 1 rfl) ?_
          refine lv_if_ne (tgt := 189) hx hb d_L_law_174 (by decide) (fun hc23 => ?_) (fun hc23 => ?_)
          · replace h := h.1 hc23
            refine lv_goto (tgt := 1227) hx hb d_L_law_189 (by decide) ?_
            obtain ⟨x24, ex24⟩ : ∃ z : Int32, z = x4 + 4 := ⟨_, rfl⟩
            refine lv_iinc (v := x24) (lv' := [(4, .int x24), (6, .int r10), (5, .int r1), (0, .ref b), (1, .ref a0), (2, .ref m0), (3, .ref o0)]) hx hb d_L_law_1227 hl (k := 6) rfl (by rw [ex24]; rfl) (by decide) rfl (fun ls hl => ?_)
            refine lv_goto (tgt := 23) hx hb d_L_law_1230 (by decide) ?_
            exact ihn (k + 1) x24 made_2 size_3 tooG_4 qcode_11 qfuns_12 qmade_13 qgreat_14 qup_15 qdown_16 out_5 kept_6 sizes_7 rows_8 taken_9 qsize_17 qrows_18 qwork_19 qxx_20 qpower _ _ _ (by omega) (by omega) (by rw [ex24, ex4]; exact (nI_add _ 4).trans (by rw [show 4 * (k + 1) = 4 * k + 4 by omega])) h hP hD hS (lv_sub hl [3, 4, 5, 6, 0] rfl)
          · replace h := h.2 hc23
            refine lv_aload_n hx hb d_L_law_177 rfl (lv_at hl 5 rfl) ?_
            refine lv_iconst (v := 0) hx hb d_L_law_178 (by decide) ?_
            obtain ⟨g25, h⟩ := h
            refine va_lald hx hb hK hP 0 0 rfl rfl g25 d_L_law_179 ?_
            refine lv_iload hx hb d_L_law_180 (lv_at hl 0 rfl) ?_
            refine lv_i2l hx hb d_L_law_182 rfl ?_
            refine W.lcmp hx hb d_L_law_183 ?_
            refine lv_if_eq (tgt := 189) hx hb d_L_law_184 (by decide) (fun hc26 => ?_) (fun hc26 => ?_)
            · replace h := h.1 hc26
              refine lv_goto (tgt := 1227) hx hb d_L_law_189 (by decide) ?_
              obtain ⟨x27, ex27⟩ : ∃ z : Int32, z = x4 + 4 := ⟨_, rfl⟩
              refine lv_iinc (v := x27) (lv' := [(4, .int x27), (6, .int r10), (5, .int r1), (0, .ref b), (1, .ref a0), (2, .ref m0), (3, .ref o0)]) hx hb d_L_law_1227 hl (k := 6) rfl (by rw [ex27]; rfl) (by decide) rfl (fun ls hl => ?_)
              refine lv_goto (tgt := 23) hx hb d_L_law_1230 (by decide) ?_
              exact ihn (k + 1) x27 made_2 size_3 tooG_4 qcode_11 qfuns_12 qmade_13 qgreat_14 qup_15 qdown_16 out_5 kept_6 sizes_7 rows_8 taken_9 qsize_17 qrows_18 qwork_19 qxx_20 qpower _ _ _ (by omega) (by omega) (by rw [ex27, ex4]; exact (nI_add _ 4).trans (by rw [show 4 * (k + 1) = 4 * k + 4 by omega])) h hP hD hS (lv_sub hl [3, 4, 5, 6, 0] rfl)
            · replace h := h.2 hc26
              refine lv_iconst (v := 0) hx hb d_L_law_187 (by decide) ?_
              exact (show False from h).elim
        · replace h := h.2 hc22
          refine lv_iconst (v := 0) hx hb d_L_law_170 (by decide) ?_
          exact (show False from h).elim
      · replace h := h.2 t0
        by_cases t1 : sw = 1
        · replace h := h.1 t1
          clear esw
          subst t1
          refine lv_tableIn (off := 153) (tgt := 192) hx hb d_L_law_39 (by decide) (by decide) (by decide +kernel) (by decide) ?_
          refine lv_aload_n hx hb d_L_law_192 rfl (lv_at hl 1 rfl) ?_
          refine lv_aload_n hx hb d_L_law_193 rfl (lv_at hl 0 rfl) ?_
          refine lv_iload hx hb d_L_law_194 (lv_at hl 4 rfl) ?_
          refine lv_iconst (v := 1) hx hb d_L_law_196 (by decide) ?_
          refine lv_iadd hx hb d_L_law_197 ?_
          refine va_sld hx hb hX hbl hbA hS hi1 d_L_law_198 ?_
          rw [← es1]
          refine lv_aload_n hx hb d_L_law_199 rfl (lv_at hl 3 rfl) ?_
          have hPc := hP.sub (ws' := (wO o0 a0 a1 a2 a3 a4 a5 co c1 c2 c4 c5 made size tooG out kept sizes rows taken)) [0, 1, 2, 3, 4, 5, 6] rfl
          have hDc := hD.sub (ws' := (wO o0 a0 a1 a2 a3 a4 a5 co c1 c2 c4 c5 made size tooG out kept sizes rows taken)) [0, 1, 2, 3, 4, 5, 6] (by decide) rfl
          have hKc := hK.sub (tys' := [(co, .long), (c1, .int), (c2, .int), (c4, .int), (c5, .int)]) [0, 1, 2, 3, 4] rfl
          have hFc := va_free (wc := (wO o0 a0 a1 a2 a3 a4 a5 co c1 c2 c4 c5 made size tooG out kept sizes rows taken)) hD hS hA [0, 1, 2, 3, 4, 5, 6] rfl
          refine va_calli (vx_runSW (As := [.ref a0, .int s1, .ref o0]) (rest := []) ⟨hx, hb, hml, hown, hB⟩ (c_L_letter l D o0 a0 a1 a2 a3 a4 a5 co c1 c2 c4 c5 H.size made size tooG out kept sizes rows taken s1 _ hst) (vx_cwSW 3 hB (goodSW wd_148 wd_149 wd_0 wd_150) rfl rfl rfl (by decide +kernel) ⟨Nat.le_of_ble_eq_true rfl, Nat.le_of_ble_eq_true rfl⟩) ⟨pcH_blind, pcH_pre hPc hKc hDc hS hXH hFc h⟩ rfl rfl hl.1 rfl (lv_room (Nat.le_of_ble_eq_true rfl)) d_L_law_200 ⟨by show _ ≤ 601024; omega, by show _ ≤ 7293034; omega⟩) hS (fun q _ h => hFc q h) hFc (fun r28 u t H1 locs ht hvm h hBu hz1 hk1 hS => ?_)
          obtain ⟨made_29, size_30, tooG_31, out_32, kept_33, sizes_34, rows_35, taken_36⟩ := u
          obtain ⟨hP1, hK1, hD1⟩ := hBu
          rw [ht] at hP1
          obtain ⟨hP, hD⟩ := va_join (wr := [(m0, .inr (2, [.int qcode, .int qfuns, .ref m1, .ref m2, .int qmade, .ref m3, .int qgreat, .ref m4, .ref m5, .long qup, .long qdown])), (m1, .inl (k1, 80, .inl qsize)), (m2, .inl (k2, 5600, .inl qrows)), (m3, .inl (k3, 840, .inl qwork)), (m4, .inl (k4, 7, .inl qxx)), (m5, .inl (k5, 5, .inl qpower))]) (w1 := (wO o0 a0 a1 a2 a3 a4 a5 co c1 c2 c4 c5 made_29 size_30 tooG_31 out_32 kept_33 sizes_34 rows_35 taken_36)) hP hD [0, 1, 2, 3, 4, 5, 6] [7, 8, 9, 10, 11, 12] rfl rfl (by decide) (by decide) hk1 hFc hP1 hD1
          generalize H1 = H at hP hS ⊢
          have hP : va_P D vwCl (wL o0 a0 a1 a2 a3 a4 a5 m0 m1 m2 m3 m4 m5 co c1 c2 c4 c5 k1 k2 k3 k4 k5 made_29 size_30 tooG_31 qcode qfuns qmade qgreat qup qdown out_32 kept_33 sizes_34 rows_35 taken_36 qsize qrows qwork qxx qpower) H := hP.sub [6, 7, 8, 9, 10, 11, 12, 0, 1, 2, 3, 4, 5] rfl
          have hD : va_D A (wL o0 a0 a1 a2 a3 a4 a5 m0 m1 m2 m3 m4 m5 co c1 c2 c4 c5 k1 k2 k3 k4 k5 made_29 size_30 tooG_31 qcode qfuns qmade qgreat qup qdown out_32 kept_33 sizes_34 rows_35 taken_36 qsize qrows qwork qxx qpower) := hD.sub [6, 7, 8, 9, 10, 11, 12, 0, 1, 2, 3, 4, 5] (by decide) rfl
          refine W.widen (k := 13 + 4 * (k + 1)) (n := 12939 + 24 * (k + 1)) (by omega) (by omega) ?_
          refine lv_istore (lv' := [(5, .int r28), (0, .ref b), (1, .ref a0), (2, .ref m0), (3, .ref o0), (4, .int x4)]) hx hb d_L_law_203 hl (by decide) rfl (fun ls hl => ?_)
          refine lv_aload_n hx hb d_L_law_205 rfl (lv_at hl 3 rfl) ?_
          refine lv_aload_n hx hb d_L_law_206 rfl (lv_at hl 1 rfl) ?_
          refine lv_iload hx hb d_L_law_207 (lv_at hl 5 rfl) ?_
          refine lv_iconst (v := 1) hx hb d_L_law_209 (by decide) ?_
          refine lv_iadd hx hb d_L_law_210 ?_
          refine va_sld hx hb hX hbl hbA hS hi1 d_L_law_211 ?_
          rw [← es1]
          have hPc := hP.sub (ws' := (wM m0 m1 m2 m3 m4 m5 k1 k2 k3 k4 k5 qcode qfuns qmade qgreat qup qdown qsize qrows qwork qxx qpower)) [7, 8, 9, 10, 11, 12] rfl
          have hDc := hD.sub (ws' := (wM m0 m1 m2 m3 m4 m5 k1 k2 k3 k4 k5 qcode qfuns qmade qgreat qup qdown qsize qrows qwork qxx qpower)) [7, 8, 9, 10, 11, 12] (by decide) rfl
          have hKc := hK.sub (tys' := [(k1, .int), (k2, .int), (k3, .int), (k4, .int), (k5, .int)]) [5, 6, 7, 8, 9] rfl
          have hFc := va_free (wc := (wM m0 m1 m2 m3 m4 m5 k1 k2 k3 k4 k5 qcode qfuns qmade qgreat qup qdown qsize qrows qwork qxx qpower)) hD hS hA [7, 8, 9, 10, 11, 12] rfl
          refine va_calli (va_runV (As := [.int s1]) (rest := []) ⟨hx, hb, hml, hown, hB⟩ (c_M_letter l D m0 m1 m2 m3 m4 m5 k1 k2 k3 k4 k5 H.size qcode qfuns qmade qgreat qup qdown qsize qrows qwork qxx qpower s1 _) (cwV 1 hB (goodV wd_390 wd_391 wd_392 wd_3 wd_393) rfl rfl rfl (by decide +kernel) ⟨Nat.le_of_ble_eq_true rfl, Nat.le_of_ble_eq_true rfl⟩) ⟨pcG_blind, va_recv hKc hPc (ci := 2) (q0 := 0) rfl rfl, pcG_pre hPc hKc hDc h⟩ rfl rfl hl.1 rfl (lv_room (Nat.le_of_ble_eq_true rfl)) d_L_law_212 ⟨by show _ ≤ 601024; omega, by show _ ≤ 7293034; omega⟩) hS (fun q _ h => hFc q h) hFc (fun r37 u t H1 locs ht hvm h hBu hz1 hk1 hS => ?_)
          obtain ⟨qcode_38, qfuns_39, qmade_40, qgreat_41, qup_42, qdown_43, qsize_44, qrows_45, qwork_46, qxx_47⟩ := u
          obtain ⟨hP1, hK1, hD1⟩ := hBu
          rw [ht] at hP1
          obtain ⟨hP, hD⟩ := va_join (wr := [(o0, .inl (co, 1, .inr (.inl out_32))), (a0, .inr (1, [.ref a1, .ref a2, .ref a3, .int made_29])), (a1, .inl (c1, 5600, .inl kept_33)), (a2, .inl (c2, 80, .inl sizes_34)), (a3, .inr (0, [.ref a4, .ref a5, .int size_30, .int tooG_31])), (a4, .inl (c4, 700, .inl rows_35)), (a5, .inl (c5, 7, .inl taken_36))]) (w1 := (wM m0 m1 m2 m3 m4 m5 k1 k2 k3 k4 k5 qcode_38 qfuns_39 qmade_40 qgreat_41 qup_42 qdown_43 qsize_44 qrows_45 qwork_46 qxx_47 qpower)) hP hD [7, 8, 9, 10, 11, 12] [0, 1, 2, 3, 4, 5, 6] rfl rfl (by decide) (by decide) hk1 hFc hP1 hD1
          generalize H1 = H at hP hS ⊢
          have hP : va_P D vwCl (wL o0 a0 a1 a2 a3 a4 a5 m0 m1 m2 m3 m4 m5 co c1 c2 c4 c5 k1 k2 k3 k4 k5 made_29 size_30 tooG_31 qcode_38 qfuns_39 qmade_40 qgreat_41 qup_42 qdown_43 out_32 kept_33 sizes_34 rows_35 taken_36 qsize_44 qrows_45 qwork_46 qxx_47 qpower) H := hP.sub [0, 1, 2, 3, 4, 5, 6, 7, 8, 9, 10, 11, 12] rfl
          have hD : va_D A (wL o0 a0 a1 a2 a3 a4 a5 m0 m1 m2 m3 m4 m5 co c1 c2 c4 c5 k1 k2 k3 k4 k5 made_29 size_30 tooG_31 qcode_38 qfuns_39 qmade_40 qgreat_41 qup_42 qdown_43 out_32 kept_33 sizes_34 rows_35 taken_36 qsize_44 qrows_45 qwork_46 qxx_47 qpower) := hD.sub [0, 1, 2, 3, 4, 5, 6, 7, 8, 9, 10, 11, 12] (by decide) rfl
          refine W.widen (k := 13 + 4 * (k + 1)) (n := 12939 + 24 * (k + 1)) (by omega) (by omega) ?_
          refine lv_istore (lv' := [(6, .int r37), (5, .int r28), (0, .ref b), (1, .ref a0), (2, .ref m0), (3, .ref o0), (4, .int x4)]) hx hb d_L_law_215 hl (by decide) rfl (fun ls hl => ?_)
          refine lv_aload_n hx hb d_L_law_217 rfl (lv_at hl 4 rfl) ?_
          have hPc := hP.sub (ws' := (wM m0 m1 m2 m3 m4 m5 k1 k2 k3 k4 k5 qcode_38 qfuns_39 qmade_40 qgreat_41 qup_42 qdown_43 qsize_44 qrows_45 qwork_46 qxx_47 qpower)) [7, 8, 9, 10, 11, 12] rfl
          have hDc := hD.sub (ws' := (wM m0 m1 m2 m3 m4 m5 k1 k2 k3 k4 k5 qcode_38 qfuns_39 qmade_40 qgreat_41 qup_42 qdown_43 qsize_44 qrows_45 qwork_46 qxx_47 qpower)) [7, 8, 9, 10, 11, 12] (by decide) rfl
          have hKc := hK.sub (tys' := [(k1, .int), (k2, .int), (k3, .int), (k4, .int), (k5, .int)]) [5, 6, 7, 8, 9] rfl
          have hFc := va_free (wc := (wM m0 m1 m2 m3 m4 m5 k1 k2 k3 k4 k5 qcode_38 qfuns_39 qmade_40 qgreat_41 qup_42 qdown_43 qsize_44 qrows_45 qwork_46 qxx_47 qpower)) hD hS hA [7, 8, 9, 10, 11, 12] rfl
          refine va_calli (va_runV (As := []) (rest := []) ⟨hx, hb, hml, hown, hB⟩ (c_M_thrown l D m0 m1 m2 m3 m4 m5 k1 k2 k3 k4 k5 H.size qcode_38 qfuns_39 qmade_40 qgreat_41 qup_42 qdown_43 qsize_44 qrows_45 qwork_46 qxx_47 qpower _) (cwV 0 hB (goodV wd_349 wd_350 wd_351 wd_3 wd_352) rfl rfl rfl (by decide +kernel) ⟨Nat.le_of_ble_eq_true rfl, Nat.le_of_ble_eq_true rfl⟩) ⟨pcG_blind, va_recv hKc hPc (ci := 2) (q0 := 0) rfl rfl, pcG_pre hPc hKc hDc h⟩ rfl rfl hl.1 rfl (lv_room (Nat.le_of_ble_eq_true rfl)) d_L_law_218 ⟨by show _ ≤ 601024; omega, by show _ ≤ 7293034; omega⟩) hS (fun q _ h => hFc q h) hFc (fun r48 u t H1 locs ht hvm h hBu hz1 hk1 hS => ?_)
          obtain ⟨hP1, hK1, hD1⟩ := hBu
          rw [ht] at hP1
          obtain ⟨hP, hD⟩ := va_join (wr := [(o0, .inl (co, 1, .inr (.inl out_32))), (a0, .inr (1, [.ref a1, .ref a2, .ref a3, .int made_29])), (a1, .inl (c1, 5600, .inl kept_33)), (a2, .inl (c2, 80, .inl sizes_34)), (a3, .inr (0, [.ref a4, .ref a5, .int size_30, .int tooG_31])), (a4, .inl (c4, 700, .inl rows_35)), (a5, .inl (c5, 7, .inl taken_36))]) (w1 := (wM m0 m1 m2 m3 m4 m5 k1 k2 k3 k4 k5 qcode_38 qfuns_39 qmade_40 qgreat_41 qup_42 qdown_43 qsize_44 qrows_45 qwork_46 qxx_47 qpower)) hP hD [7, 8, 9, 10, 11, 12] [0, 1, 2, 3, 4, 5, 6] rfl rfl (by decide) (by decide) hk1 hFc hP1 hD1
          generalize H1 = H at hP hS ⊢
          have hP : va_P D vwCl (wL o0 a0 a1 a2 a3 a4 a5 m0 m1 m2 m3 m4 m5 co c1 c2 c4 c5 k1 k2 k3 k4 k5 made_29 size_30 tooG_31 qcode_38 qfuns_39 qmade_40 qgreat_41 qup_42 qdown_43 out_32 kept_33 sizes_34 rows_35 taken_36 qsize_44 qrows_45 qwork_46 qxx_47 qpower) H := hP.sub [0, 1, 2, 3, 4, 5, 6, 7, 8, 9, 10, 11, 12] rfl
          have hD : va_D A (wL o0 a0 a1 a2 a3 a4 a5 m0 m1 m2 m3 m4 m5 co c1 c2 c4 c5 k1 k2 k3 k4 k5 made_29 size_30 tooG_31 qcode_38 qfuns_39 qmade_40 qgreat_41 qup_42 qdown_43 out_32 kept_33 sizes_34 rows_35 taken_36 qsize_44 qrows_45 qwork_46 qxx_47 qpower) := hD.sub [0, 1, 2, 3, 4, 5, 6, 7, 8, 9, 10, 11, 12] (by decide) rfl
          refine W.widen (k := 13 + 4 * (k + 1)) (n := 12939 + 24 * (k + 1)) (by omega) (by omega) ?_
          refine lv_iload hx hb d_L_law_221 (lv_at hl 1 rfl) ?_
          refine lv_icmp_eq (tgt := 228) hx hb d_L_law_223 (by decide) (fun hc49 => ?_) (fun hc49 => ?_)
          · replace h := h.1 hc49
            refine lv_iload hx hb d_L_law_228 (lv_at hl 1 rfl) ?_
            refine lv_if_ne (tgt := 245) hx hb d_L_law_230 (by decide) (fun hc50 => ?_) (fun hc50 => ?_)
            · replace h := h.1 hc50
              refine lv_goto (tgt := 1227) hx hb d_L_law_245 (by decide) ?_
              obtain ⟨x51, ex51⟩ : ∃ z : Int32, z = x4 + 4 := ⟨_, rfl⟩
              refine lv_iinc (v := x51) (lv' := [(4, .int x51), (6, .int r37), (5, .int r28), (0, .ref b), (1, .ref a0), (2, .ref m0), (3, .ref o0)]) hx hb d_L_law_1227 hl (k := 6) rfl (by rw [ex51]; rfl) (by decide) rfl (fun ls hl => ?_)
              refine lv_goto (tgt := 23) hx hb d_L_law_1230 (by decide) ?_
              exact ihn (k + 1) x51 made_29 size_30 tooG_31 qcode_38 qfuns_39 qmade_40 qgreat_41 qup_42 qdown_43 out_32 kept_33 sizes_34 rows_35 taken_36 qsize_44 qrows_45 qwork_46 qxx_47 qpower _ _ _ (by omega) (by omega) (by rw [ex51, ex4]; exact (nI_add _ 4).trans (by rw [show 4 * (k + 1) = 4 * k + 4 by omega])) h hP hD hS (lv_sub hl [3, 4, 5, 6, 0] rfl)
            · replace h := h.2 hc50
              refine lv_aload_n hx hb d_L_law_233 rfl (lv_at hl 5 rfl) ?_
              refine lv_iconst (v := 0) hx hb d_L_law_234 (by decide) ?_
              obtain ⟨g52, h⟩ := h
              refine va_lald hx hb hK hP 0 0 rfl rfl g52 d_L_law_235 ?_
              refine lv_iload hx hb d_L_law_236 (lv_at hl 0 rfl) ?_
              refine lv_i2l hx hb d_L_law_238 rfl ?_
              refine W.lcmp hx hb d_L_law_239 ?_
              refine lv_if_eq (tgt := 245) hx hb d_L_law_240 (by decide) (fun hc53 => ?_) (fun hc53 => ?_)
              · replace h := h.1 hc53
                refine lv_goto (tgt := 1227) hx hb d_L_law_245 (by decide) ?_
                obtain ⟨x54, ex54⟩ : ∃ z : Int32, z = x4 + 4 := ⟨_, rfl⟩
                refine lv_iinc (v := x54) (lv' := [(4, .int x54), (6, .int r37), (5, .int r28), (0, .ref b), (1, .ref a0), (2, .ref m0), (3, .ref o0)]) hx hb d_L_law_1227 hl (k := 6) rfl (by rw [ex54]; rfl) (by decide) rfl (fun ls hl => ?_)
                refine lv_goto (tgt := 23) hx hb d_L_law_1230 (by decide) ?_
                exact ihn (k + 1) x54 made_29 size_30 tooG_31 qcode_38 qfuns_39 qmade_40 qgreat_41 qup_42 qdown_43 out_32 kept_33 sizes_34 rows_35 taken_36 qsize_44 qrows_45 qwork_46 qxx_47 qpower _ _ _ (by omega) (by omega) (by rw [ex54, ex4]; exact (nI_add _ 4).trans (by rw [show 4 * (k + 1) = 4 * k + 4 by omega])) h hP hD hS (lv_sub hl [3, 4, 5, 6, 0] rfl)
              · replace h := h.2 hc53
                refine lv_iconst (v := 0) hx hb d_L_law_243 (by decide) ?_
                exact (show False from h).elim
          · replace h := h.2 hc49
            refine lv_iconst (v := 0) hx hb d_L_law_226 (by decide) ?_
            exact (show False from h).elim
        · replace h := h.2 t1
          by_cases t2 : sw = 2
          · replace h := h.1 t2
            clear esw
            subst t2
            refine lv_tableIn (off := 209) (tgt := 248) hx hb d_L_law_39 (by decide) (by decide) (by decide +kernel) (by decide) ?_
            refine lv_aload_n hx hb d_L_law_248 rfl (lv_at hl 1 rfl) ?_
            refine lv_aload_n hx hb d_L_law_249 rfl (lv_at hl 0 rfl) ?_
            refine lv_iload hx hb d_L_law_250 (lv_at hl 4 rfl) ?_
            refine lv_iconst (v := 1) hx hb d_L_law_252 (by decide) ?_
            refine lv_iadd hx hb d_L_law_253 ?_
            refine va_sld hx hb hX hbl hbA hS hi1 d_L_law_254 ?_
            rw [← es1]
            refine lv_aload_n hx hb d_L_law_255 rfl (lv_at hl 0 rfl) ?_
            refine lv_iload hx hb d_L_law_256 (lv_at hl 4 rfl) ?_
            refine lv_iconst (v := 2) hx hb d_L_law_258 (by decide) ?_
            refine lv_iadd hx hb d_L_law_259 ?_
            refine va_sld hx hb hX hbl hbA hS hi2 d_L_law_260 ?_
            rw [← es2]
            refine lv_aload_n hx hb d_L_law_261 rfl (lv_at hl 3 rfl) ?_
            have hPc := hP.sub (ws' := (wO o0 a0 a1 a2 a3 a4 a5 co c1 c2 c4 c5 made size tooG out kept sizes rows taken)) [0, 1, 2, 3, 4, 5, 6] rfl
            have hDc := hD.sub (ws' := (wO o0 a0 a1 a2 a3 a4 a5 co c1 c2 c4 c5 made size tooG out kept sizes rows taken)) [0, 1, 2, 3, 4, 5, 6] (by decide) rfl
            have hKc := hK.sub (tys' := [(co, .long), (c1, .int), (c2, .int), (c4, .int), (c5, .int)]) [0, 1, 2, 3, 4] rfl
            have hFc := va_free (wc := (wO o0 a0 a1 a2 a3 a4 a5 co c1 c2 c4 c5 made size tooG out kept sizes rows taken)) hD hS hA [0, 1, 2, 3, 4, 5, 6] rfl
            refine va_calli (vx_runSW (As := [.ref a0, .int s1, .int s2, .ref o0]) (rest := []) ⟨hx, hb, hml, hown, hB⟩ (c_L_add l D o0 a0 a1 a2 a3 a4 a5 co c1 c2 c4 c5 H.size made size tooG out kept sizes rows taken s1 s2 _ hst) (vx_cwSW 4 hB (goodSW wd_170 wd_171 wd_0 wd_172) rfl rfl rfl (by decide +kernel) ⟨Nat.le_of_ble_eq_true rfl, Nat.le_of_ble_eq_true rfl⟩) ⟨pcH_blind, pcH_pre hPc hKc hDc hS hXH hFc h⟩ rfl rfl hl.1 rfl (lv_room (Nat.le_of_ble_eq_true rfl)) d_L_law_262 ⟨by show _ ≤ 601024; omega, by show _ ≤ 7293034; omega⟩) hS (fun q _ h => hFc q h) hFc (fun r55 u t H1 locs ht hvm h hBu hz1 hk1 hS => ?_)
            obtain ⟨made_56, size_57, tooG_58, out_59, kept_60, sizes_61, rows_62, taken_63⟩ := u
            obtain ⟨hP1, hK1, hD1⟩ := hBu
            rw [ht] at hP1
            obtain ⟨hP, hD⟩ := va_join (wr := [(m0, .inr (2, [.int qcode, .int qfuns, .ref m1, .ref m2, .int qmade, .ref m3, .int qgreat, .ref m4, .ref m5, .long qup, .long qdown])), (m1, .inl (k1, 80, .inl qsize)), (m2, .inl (k2, 5600, .inl qrows)), (m3, .inl (k3, 840, .inl qwork)), (m4, .inl (k4, 7, .inl qxx)), (m5, .inl (k5, 5, .inl qpower))]) (w1 := (wO o0 a0 a1 a2 a3 a4 a5 co c1 c2 c4 c5 made_56 size_57 tooG_58 out_59 kept_60 sizes_61 rows_62 taken_63)) hP hD [0, 1, 2, 3, 4, 5, 6] [7, 8, 9, 10, 11, 12] rfl rfl (by decide) (by decide) hk1 hFc hP1 hD1
            generalize H1 = H at hP hS ⊢
            have hP : va_P D vwCl (wL o0 a0 a1 a2 a3 a4 a5 m0 m1 m2 m3 m4 m5 co c1 c2 c4 c5 k1 k2 k3 k4 k5 made_56 size_57 tooG_58 qcode qfuns qmade qgreat qup qdown out_59 kept_60 sizes_61 rows_62 taken_63 qsize qrows qwork qxx qpower) H := hP.sub [6, 7, 8, 9, 10, 11, 12, 0, 1, 2, 3, 4, 5] rfl
            have hD : va_D A (wL o0 a0 a1 a2 a3 a4 a5 m0 m1 m2 m3 m4 m5 co c1 c2 c4 c5 k1 k2 k3 k4 k5 made_56 size_57 tooG_58 qcode qfuns qmade qgreat qup qdown out_59 kept_60 sizes_61 rows_62 taken_63 qsize qrows qwork qxx qpower) := hD.sub [6, 7, 8, 9, 10, 11, 12, 0, 1, 2, 3, 4, 5] (by decide) rfl
            refine W.widen (k := 13 + 4 * (k + 1)) (n := 12939 + 24 * (k + 1)) (by omega) (by omega) ?_
            refine lv_istore (lv' := [(5, .int r55), (0, .ref b), (1, .ref a0), (2, .ref m0), (3, .ref o0), (4, .int x4)]) hx hb d_L_law_265 hl (by decide) rfl (fun ls hl => ?_)
            refine lv_aload_n hx hb d_L_law_267 rfl (lv_at hl 3 rfl) ?_
            refine lv_aload_n hx hb d_L_law_268 rfl (lv_at hl 1 rfl) ?_
            refine lv_iload hx hb d_L_law_269 (lv_at hl 5 rfl) ?_
            refine lv_iconst (v := 1) hx hb d_L_law_271 (by decide) ?_
            refine lv_iadd hx hb d_L_law_272 ?_
            refine va_sld hx hb hX hbl hbA hS hi1 d_L_law_273 ?_
            rw [← es1]
            refine lv_aload_n hx hb d_L_law_274 rfl (lv_at hl 1 rfl) ?_
            refine lv_iload hx hb d_L_law_275 (lv_at hl 5 rfl) ?_
            refine lv_iconst (v := 2) hx hb d_L_law_277 (by decide) ?_
            refine lv_iadd hx hb d_L_law_278 ?_
            refine va_sld hx hb hX hbl hbA hS hi2 d_L_law_279 ?_
            rw [← es2]
            have hPc := hP.sub (ws' := (wM m0 m1 m2 m3 m4 m5 k1 k2 k3 k4 k5 qcode qfuns qmade qgreat qup qdown qsize qrows qwork qxx qpower)) [7, 8, 9, 10, 11, 12] rfl
            have hDc := hD.sub (ws' := (wM m0 m1 m2 m3 m4 m5 k1 k2 k3 k4 k5 qcode qfuns qmade qgreat qup qdown qsize qrows qwork qxx qpower)) [7, 8, 9, 10, 11, 12] (by decide) rfl
            have hKc := hK.sub (tys' := [(k1, .int), (k2, .int), (k3, .int), (k4, .int), (k5, .int)]) [5, 6, 7, 8, 9] rfl
            have hFc := va_free (wc := (wM m0 m1 m2 m3 m4 m5 k1 k2 k3 k4 k5 qcode qfuns qmade qgreat qup qdown qsize qrows qwork qxx qpower)) hD hS hA [7, 8, 9, 10, 11, 12] rfl
            refine va_calli (va_runV (As := [.int s1, .int s2]) (rest := []) ⟨hx, hb, hml, hown, hB⟩ (c_M_add l D m0 m1 m2 m3 m4 m5 k1 k2 k3 k4 k5 H.size qcode qfuns qmade qgreat qup qdown qsize qrows qwork qxx qpower s1 s2 _) (cwV 2 hB (goodV wd_395 wd_396 wd_397 wd_3 wd_398) rfl rfl rfl (by decide +kernel) ⟨Nat.le_of_ble_eq_true rfl, Nat.le_of_ble_eq_true rfl⟩) ⟨pcG_blind, va_recv hKc hPc (ci := 2) (q0 := 0) rfl rfl, pcG_pre hPc hKc hDc h⟩ rfl rfl hl.1 rfl (lv_room (Nat.le_of_ble_eq_true rfl)) d_L_law_280 ⟨by show _ ≤ 601024; omega, by show _ ≤ 7293034; omega⟩) hS (fun q _ h => hFc q h) hFc (fun r64 u t H1 locs ht hvm h hBu hz1 hk1 hS => ?_)
            obtain ⟨qcode_65, qfuns_66, qmade_67, qgreat_68, qup_69, qdown_70, qsize_71, qrows_72, qwork_73, qxx_74⟩ := u
            obtain ⟨hP1, hK1, hD1⟩ := hBu
            rw [ht] at hP1
            obtain ⟨hP, hD⟩ := va_join (wr := [(o0, .inl (co, 1, .inr (.inl out_59))), (a0, .inr (1, [.ref a1, .ref a2, .ref a3, .int made_56])), (a1, .inl (c1, 5600, .inl kept_60)), (a2, .inl (c2, 80, .inl sizes_61)), (a3, .inr (0, [.ref a4, .ref a5, .int size_57, .int tooG_58])), (a4, .inl (c4, 700, .inl rows_62)), (a5, .inl (c5, 7, .inl taken_63))]) (w1 := (wM m0 m1 m2 m3 m4 m5 k1 k2 k3 k4 k5 qcode_65 qfuns_66 qmade_67 qgreat_68 qup_69 qdown_70 qsize_71 qrows_72 qwork_73 qxx_74 qpower)) hP hD [7, 8, 9, 10, 11, 12] [0, 1, 2, 3, 4, 5, 6] rfl rfl (by decide) (by decide) hk1 hFc hP1 hD1
            generalize H1 = H at hP hS ⊢
            have hP : va_P D vwCl (wL o0 a0 a1 a2 a3 a4 a5 m0 m1 m2 m3 m4 m5 co c1 c2 c4 c5 k1 k2 k3 k4 k5 made_56 size_57 tooG_58 qcode_65 qfuns_66 qmade_67 qgreat_68 qup_69 qdown_70 out_59 kept_60 sizes_61 rows_62 taken_63 qsize_71 qrows_72 qwork_73 qxx_74 qpower) H := hP.sub [0, 1, 2, 3, 4, 5, 6, 7, 8, 9, 10, 11, 12] rfl
            have hD : va_D A (wL o0 a0 a1 a2 a3 a4 a5 m0 m1 m2 m3 m4 m5 co c1 c2 c4 c5 k1 k2 k3 k4 k5 made_56 size_57 tooG_58 qcode_65 qfuns_66 qmade_67 qgreat_68 qup_69 qdown_70 out_59 kept_60 sizes_61 rows_62 taken_63 qsize_71 qrows_72 qwork_73 qxx_74 qpower) := hD.sub [0, 1, 2, 3, 4, 5, 6, 7, 8, 9, 10, 11, 12] (by decide) rfl
            refine W.widen (k := 13 + 4 * (k + 1)) (n := 12939 + 24 * (k + 1)) (by omega) (by omega) ?_
            refine lv_istore (lv' := [(6, .int r64), (5, .int r55), (0, .ref b), (1, .ref a0), (2, .ref m0), (3, .ref o0), (4, .int x4)]) hx hb d_L_law_283 hl (by decide) rfl (fun ls hl => ?_)
            refine lv_aload_n hx hb d_L_law_285 rfl (lv_at hl 4 rfl) ?_
            have hPc := hP.sub (ws' := (wM m0 m1 m2 m3 m4 m5 k1 k2 k3 k4 k5 qcode_65 qfuns_66 qmade_67 qgreat_68 qup_69 qdown_70 qsize_71 qrows_72 qwork_73 qxx_74 qpower)) [7, 8, 9, 10, 11, 12] rfl
            have hDc := hD.sub (ws' := (wM m0 m1 m2 m3 m4 m5 k1 k2 k3 k4 k5 qcode_65 qfuns_66 qmade_67 qgreat_68 qup_69 qdown_70 qsize_71 qrows_72 qwork_73 qxx_74 qpower)) [7, 8, 9, 10, 11, 12] (by decide) rfl
            have hKc := hK.sub (tys' := [(k1, .int), (k2, .int), (k3, .int), (k4, .int), (k5, .int)]) [5, 6, 7, 8, 9] rfl
            have hFc := va_free (wc := (wM m0 m1 m2 m3 m4 m5 k1 k2 k3 k4 k5 qcode_65 qfuns_66 qmade_67 qgreat_68 qup_69 qdown_70 qsize_71 qrows_72 qwork_73 qxx_74 qpower)) hD hS hA [7, 8, 9, 10, 11, 12] rfl
            refine va_calli (va_runV (As := []) (rest := []) ⟨hx, hb, hml, hown, hB⟩ (c_M_thrown l D m0 m1 m2 m3 m4 m5 k1 k2 k3 k4 k5 H.size qcode_65 qfuns_66 qmade_67 qgreat_68 qup_69 qdown_70 qsize_71 qrows_72 qwork_73 qxx_74 qpower _) (cwV 0 hB (goodV wd_349 wd_350 wd_351 wd_3 wd_352) rfl rfl rfl (by decide +kernel) ⟨Nat.le_of_ble_eq_true rfl, Nat.le_of_ble_eq_true rfl⟩) ⟨pcG_blind, va_recv hKc hPc (ci := 2) (q0 := 0) rfl rfl, pcG_pre hPc hKc hDc h⟩ rfl rfl hl.1 rfl (lv_room (Nat.le_of_ble_eq_true rfl)) d_L_law_286 ⟨by show _ ≤ 601024; omega, by show _ ≤ 7293034; omega⟩) hS (fun q _ h => hFc q h) hFc (fun r75 u t H1 locs ht hvm h hBu hz1 hk1 hS => ?_)
            obtain ⟨hP1, hK1, hD1⟩ := hBu
            rw [ht] at hP1
            obtain ⟨hP, hD⟩ := va_join (wr := [(o0, .inl (co, 1, .inr (.inl out_59))), (a0, .inr (1, [.ref a1, .ref a2, .ref a3, .int made_56])), (a1, .inl (c1, 5600, .inl kept_60)), (a2, .inl (c2, 80, .inl sizes_61)), (a3, .inr (0, [.ref a4, .ref a5, .int size_57, .int tooG_58])), (a4, .inl (c4, 700, .inl rows_62)), (a5, .inl (c5, 7, .inl taken_63))]) (w1 := (wM m0 m1 m2 m3 m4 m5 k1 k2 k3 k4 k5 qcode_65 qfuns_66 qmade_67 qgreat_68 qup_69 qdown_70 qsize_71 qrows_72 qwork_73 qxx_74 qpower)) hP hD [7, 8, 9, 10, 11, 12] [0, 1, 2, 3, 4, 5, 6] rfl rfl (by decide) (by decide) hk1 hFc hP1 hD1
            generalize H1 = H at hP hS ⊢
            have hP : va_P D vwCl (wL o0 a0 a1 a2 a3 a4 a5 m0 m1 m2 m3 m4 m5 co c1 c2 c4 c5 k1 k2 k3 k4 k5 made_56 size_57 tooG_58 qcode_65 qfuns_66 qmade_67 qgreat_68 qup_69 qdown_70 out_59 kept_60 sizes_61 rows_62 taken_63 qsize_71 qrows_72 qwork_73 qxx_74 qpower) H := hP.sub [0, 1, 2, 3, 4, 5, 6, 7, 8, 9, 10, 11, 12] rfl
            have hD : va_D A (wL o0 a0 a1 a2 a3 a4 a5 m0 m1 m2 m3 m4 m5 co c1 c2 c4 c5 k1 k2 k3 k4 k5 made_56 size_57 tooG_58 qcode_65 qfuns_66 qmade_67 qgreat_68 qup_69 qdown_70 out_59 kept_60 sizes_61 rows_62 taken_63 qsize_71 qrows_72 qwork_73 qxx_74 qpower) := hD.sub [0, 1, 2, 3, 4, 5, 6, 7, 8, 9, 10, 11, 12] (by decide) rfl
            refine W.widen (k := 13 + 4 * (k + 1)) (n := 12939 + 24 * (k + 1)) (by omega) (by omega) ?_
            refine lv_iload hx hb d_L_law_289 (lv_at hl 1 rfl) ?_
            refine lv_icmp_eq (tgt := 296) hx hb d_L_law_291 (by decide) (fun hc76 => ?_) (fun hc76 => ?_)
            · replace h := h.1 hc76
              refine lv_iload hx hb d_L_law_296 (lv_at hl 1 rfl) ?_
              refine lv_if_ne (tgt := 313) hx hb d_L_law_298 (by decide) (fun hc77 => ?_) (fun hc77 => ?_)
              · replace h := h.1 hc77
                refine lv_goto (tgt := 1227) hx hb d_L_law_313 (by decide) ?_
                obtain ⟨x78, ex78⟩ : ∃ z : Int32, z = x4 + 4 := ⟨_, rfl⟩
                refine lv_iinc (v := x78) (lv' := [(4, .int x78), (6, .int r64), (5, .int r55), (0, .ref b), (1, .ref a0), (2, .ref m0), (3, .ref o0)]) hx hb d_L_law_1227 hl (k := 6) rfl (by rw [ex78]; rfl) (by decide) rfl (fun ls hl => ?_)
                refine lv_goto (tgt := 23) hx hb d_L_law_1230 (by decide) ?_
                exact ihn (k + 1) x78 made_56 size_57 tooG_58 qcode_65 qfuns_66 qmade_67 qgreat_68 qup_69 qdown_70 out_59 kept_60 sizes_61 rows_62 taken_63 qsize_71 qrows_72 qwork_73 qxx_74 qpower _ _ _ (by omega) (by omega) (by rw [ex78, ex4]; exact (nI_add _ 4).trans (by rw [show 4 * (k + 1) = 4 * k + 4 by omega])) h hP hD hS (lv_sub hl [3, 4, 5, 6, 0] rfl)
              · replace h := h.2 hc77
                refine lv_aload_n hx hb d_L_law_301 rfl (lv_at hl 5 rfl) ?_
                refine lv_iconst (v := 0) hx hb d_L_law_302 (by decide) ?_
                obtain ⟨g79, h⟩ := h
                refine va_lald hx hb hK hP 0 0 rfl rfl g79 d_L_law_303 ?_
                refine lv_iload hx hb d_L_law_304 (lv_at hl 0 rfl) ?_
                refine lv_i2l hx hb d_L_law_306 rfl ?_
                refine W.lcmp hx hb d_L_law_307 ?_
                refine lv_if_eq (tgt := 313) hx hb d_L_law_308 (by decide) (fun hc80 => ?_) (fun hc80 => ?_)
                · replace h := h.1 hc80
                  refine lv_goto (tgt := 1227) hx hb d_L_law_313 (by decide) ?_
                  obtain ⟨x81, ex81⟩ : ∃ z : Int32, z = x4 + 4 := ⟨_, rfl⟩
                  refine lv_iinc (v := x81) (lv' := [(4, .int x81), (6, .int r64), (5, .int r55), (0, .ref b), (1, .ref a0), (2, .ref m0), (3, .ref o0)]) hx hb d_L_law_1227 hl (k := 6) rfl (by rw [ex81]; rfl) (by decide) rfl (fun ls hl => ?_)
                  refine lv_goto (tgt := 23) hx hb d_L_law_1230 (by decide) ?_
                  exact ihn (k + 1) x81 made_56 size_57 tooG_58 qcode_65 qfuns_66 qmade_67 qgreat_68 qup_69 qdown_70 out_59 kept_60 sizes_61 rows_62 taken_63 qsize_71 qrows_72 qwork_73 qxx_74 qpower _ _ _ (by omega) (by omega) (by rw [ex81, ex4]; exact (nI_add _ 4).trans (by rw [show 4 * (k + 1) = 4 * k + 4 by omega])) h hP hD hS (lv_sub hl [3, 4, 5, 6, 0] rfl)
                · replace h := h.2 hc80
                  refine lv_iconst (v := 0) hx hb d_L_law_311 (by decide) ?_
                  exact (show False from h).elim
            · replace h := h.2 hc76
              refine lv_iconst (v := 0) hx hb d_L_law_294 (by decide) ?_
              exact (show False from h).elim
          · replace h := h.2 t2
            by_cases t3 : sw = 3
            · replace h := h.1 t3
              clear esw
              subst t3
              refine lv_tableIn (off := 277) (tgt := 316) hx hb d_L_law_39 (by decide) (by decide) (by decide +kernel) (by decide) ?_
              refine lv_aload_n hx hb d_L_law_316 rfl (lv_at hl 1 rfl) ?_
              refine lv_aload_n hx hb d_L_law_317 rfl (lv_at hl 0 rfl) ?_
              refine lv_iload hx hb d_L_law_318 (lv_at hl 4 rfl) ?_
              refine lv_iconst (v := 1) hx hb d_L_law_320 (by decide) ?_
              refine lv_iadd hx hb d_L_law_321 ?_
              refine va_sld hx hb hX hbl hbA hS hi1 d_L_law_322 ?_
              rw [← es1]
              refine lv_aload_n hx hb d_L_law_323 rfl (lv_at hl 0 rfl) ?_
              refine lv_iload hx hb d_L_law_324 (lv_at hl 4 rfl) ?_
              refine lv_iconst (v := 2) hx hb d_L_law_326 (by decide) ?_
              refine lv_iadd hx hb d_L_law_327 ?_
              refine va_sld hx hb hX hbl hbA hS hi2 d_L_law_328 ?_
              rw [← es2]
              refine lv_aload_n hx hb d_L_law_329 rfl (lv_at hl 3 rfl) ?_
              have hPc := hP.sub (ws' := (wO o0 a0 a1 a2 a3 a4 a5 co c1 c2 c4 c5 made size tooG out kept sizes rows taken)) [0, 1, 2, 3, 4, 5, 6] rfl
              have hDc := hD.sub (ws' := (wO o0 a0 a1 a2 a3 a4 a5 co c1 c2 c4 c5 made size tooG out kept sizes rows taken)) [0, 1, 2, 3, 4, 5, 6] (by decide) rfl
              have hKc := hK.sub (tys' := [(co, .long), (c1, .int), (c2, .int), (c4, .int), (c5, .int)]) [0, 1, 2, 3, 4] rfl
              have hFc := va_free (wc := (wO o0 a0 a1 a2 a3 a4 a5 co c1 c2 c4 c5 made size tooG out kept sizes rows taken)) hD hS hA [0, 1, 2, 3, 4, 5, 6] rfl
              refine va_calli (vx_runSW (As := [.ref a0, .int s1, .int s2, .ref o0]) (rest := []) ⟨hx, hb, hml, hown, hB⟩ (c_L_times l D o0 a0 a1 a2 a3 a4 a5 co c1 c2 c4 c5 H.size made size tooG out kept sizes rows taken s1 s2 _ hst) (vx_cwSW 4 hB (goodSW wd_195 wd_196 wd_0 wd_197) rfl rfl rfl (by decide +kernel) ⟨Nat.le_of_ble_eq_true rfl, Nat.le_of_ble_eq_true rfl⟩) ⟨pcH_blind, pcH_pre hPc hKc hDc hS hXH hFc h⟩ rfl rfl hl.1 rfl (lv_room (Nat.le_of_ble_eq_true rfl)) d_L_law_330 ⟨by show _ ≤ 601024; omega, by show _ ≤ 7293034; omega⟩) hS (fun q _ h => hFc q h) hFc (fun r82 u t H1 locs ht hvm h hBu hz1 hk1 hS => ?_)
              obtain ⟨made_83, size_84, tooG_85, out_86, kept_87, sizes_88, rows_89, taken_90⟩ := u
              obtain ⟨hP1, hK1, hD1⟩ := hBu
              rw [ht] at hP1
              obtain ⟨hP, hD⟩ := va_join (wr := [(m0, .inr (2, [.int qcode, .int qfuns, .ref m1, .ref m2, .int qmade, .ref m3, .int qgreat, .ref m4, .ref m5, .long qup, .long qdown])), (m1, .inl (k1, 80, .inl qsize)), (m2, .inl (k2, 5600, .inl qrows)), (m3, .inl (k3, 840, .inl qwork)), (m4, .inl (k4, 7, .inl qxx)), (m5, .inl (k5, 5, .inl qpower))]) (w1 := (wO o0 a0 a1 a2 a3 a4 a5 co c1 c2 c4 c5 made_83 size_84 tooG_85 out_86 kept_87 sizes_88 rows_89 taken_90)) hP hD [0, 1, 2, 3, 4, 5, 6] [7, 8, 9, 10, 11, 12] rfl rfl (by decide) (by decide) hk1 hFc hP1 hD1
              generalize H1 = H at hP hS ⊢
              have hP : va_P D vwCl (wL o0 a0 a1 a2 a3 a4 a5 m0 m1 m2 m3 m4 m5 co c1 c2 c4 c5 k1 k2 k3 k4 k5 made_83 size_84 tooG_85 qcode qfuns qmade qgreat qup qdown out_86 kept_87 sizes_88 rows_89 taken_90 qsize qrows qwork qxx qpower) H := hP.sub [6, 7, 8, 9, 10, 11, 12, 0, 1, 2, 3, 4, 5] rfl
              have hD : va_D A (wL o0 a0 a1 a2 a3 a4 a5 m0 m1 m2 m3 m4 m5 co c1 c2 c4 c5 k1 k2 k3 k4 k5 made_83 size_84 tooG_85 qcode qfuns qmade qgreat qup qdown out_86 kept_87 sizes_88 rows_89 taken_90 qsize qrows qwork qxx qpower) := hD.sub [6, 7, 8, 9, 10, 11, 12, 0, 1, 2, 3, 4, 5] (by decide) rfl
              refine W.widen (k := 13 + 4 * (k + 1)) (n := 12939 + 24 * (k + 1)) (by omega) (by omega) ?_
              refine lv_istore (lv' := [(5, .int r82), (0, .ref b), (1, .ref a0), (2, .ref m0), (3, .ref o0), (4, .int x4)]) hx hb d_L_law_333 hl (by decide) rfl (fun ls hl => ?_)
              refine lv_aload_n hx hb d_L_law_335 rfl (lv_at hl 3 rfl) ?_
              refine lv_aload_n hx hb d_L_law_336 rfl (lv_at hl 1 rfl) ?_
              refine lv_iload hx hb d_L_law_337 (lv_at hl 5 rfl) ?_
              refine lv_iconst (v := 1) hx hb d_L_law_339 (by decide) ?_
              refine lv_iadd hx hb d_L_law_340 ?_
              refine va_sld hx hb hX hbl hbA hS hi1 d_L_law_341 ?_
              rw [← es1]
              refine lv_aload_n hx hb d_L_law_342 rfl (lv_at hl 1 rfl) ?_
              refine lv_iload hx hb d_L_law_343 (lv_at hl 5 rfl) ?_
              refine lv_iconst (v := 2) hx hb d_L_law_345 (by decide) ?_
              refine lv_iadd hx hb d_L_law_346 ?_
              refine va_sld hx hb hX hbl hbA hS hi2 d_L_law_347 ?_
              rw [← es2]
              have hPc := hP.sub (ws' := (wM m0 m1 m2 m3 m4 m5 k1 k2 k3 k4 k5 qcode qfuns qmade qgreat qup qdown qsize qrows qwork qxx qpower)) [7, 8, 9, 10, 11, 12] rfl
              have hDc := hD.sub (ws' := (wM m0 m1 m2 m3 m4 m5 k1 k2 k3 k4 k5 qcode qfuns qmade qgreat qup qdown qsize qrows qwork qxx qpower)) [7, 8, 9, 10, 11, 12] (by decide) rfl
              have hKc := hK.sub (tys' := [(k1, .int), (k2, .int), (k3, .int), (k4, .int), (k5, .int)]) [5, 6, 7, 8, 9] rfl
              have hFc := va_free (wc := (wM m0 m1 m2 m3 m4 m5 k1 k2 k3 k4 k5 qcode qfuns qmade qgreat qup qdown qsize qrows qwork qxx qpower)) hD hS hA [7, 8, 9, 10, 11, 12] rfl
              refine va_calli (va_runV (As := [.int s1, .int s2]) (rest := []) ⟨hx, hb, hml, hown, hB⟩ (c_M_times l D m0 m1 m2 m3 m4 m5 k1 k2 k3 k4 k5 H.size qcode qfuns qmade qgreat qup qdown qsize qrows qwork qxx qpower s1 s2 _) (cwV 2 hB (goodV wd_411 wd_412 wd_413 wd_3 wd_414) rfl rfl rfl (by decide +kernel) ⟨Nat.le_of_ble_eq_true rfl, Nat.le_of_ble_eq_true rfl⟩) ⟨pcG_blind, va_recv hKc hPc (ci := 2) (q0 := 0) rfl rfl, pcG_pre hPc hKc hDc h⟩ rfl rfl hl.1 rfl (lv_room (Nat.le_of_ble_eq_true rfl)) d_L_law_348 ⟨by show _ ≤ 601024; omega, by show _ ≤ 7293034; omega⟩) hS (fun q _ h => hFc q h) hFc (fun r91 u t H1 locs ht hvm h hBu hz1 hk1 hS => ?_)
              obtain ⟨qcode_92, qfuns_93, qmade_94, qgreat_95, qup_96, qdown_97, qsize_98, qrows_99, qwork_100, qxx_101⟩ := u
              obtain ⟨hP1, hK1, hD1⟩ := hBu
              rw [ht] at hP1
              obtain ⟨hP, hD⟩ := va_join (wr := [(o0, .inl (co, 1, .inr (.inl out_86))), (a0, .inr (1, [.ref a1, .ref a2, .ref a3, .int made_83])), (a1, .inl (c1, 5600, .inl kept_87)), (a2, .inl (c2, 80, .inl sizes_88)), (a3, .inr (0, [.ref a4, .ref a5, .int size_84, .int tooG_85])), (a4, .inl (c4, 700, .inl rows_89)), (a5, .inl (c5, 7, .inl taken_90))]) (w1 := (wM m0 m1 m2 m3 m4 m5 k1 k2 k3 k4 k5 qcode_92 qfuns_93 qmade_94 qgreat_95 qup_96 qdown_97 qsize_98 qrows_99 qwork_100 qxx_101 qpower)) hP hD [7, 8, 9, 10, 11, 12] [0, 1, 2, 3, 4, 5, 6] rfl rfl (by decide) (by decide) hk1 hFc hP1 hD1
              generalize H1 = H at hP hS ⊢
              have hP : va_P D vwCl (wL o0 a0 a1 a2 a3 a4 a5 m0 m1 m2 m3 m4 m5 co c1 c2 c4 c5 k1 k2 k3 k4 k5 made_83 size_84 tooG_85 qcode_92 qfuns_93 qmade_94 qgreat_95 qup_96 qdown_97 out_86 kept_87 sizes_88 rows_89 taken_90 qsize_98 qrows_99 qwork_100 qxx_101 qpower) H := hP.sub [0, 1, 2, 3, 4, 5, 6, 7, 8, 9, 10, 11, 12] rfl
              have hD : va_D A (wL o0 a0 a1 a2 a3 a4 a5 m0 m1 m2 m3 m4 m5 co c1 c2 c4 c5 k1 k2 k3 k4 k5 made_83 size_84 tooG_85 qcode_92 qfuns_93 qmade_94 qgreat_95 qup_96 qdown_97 out_86 kept_87 sizes_88 rows_89 taken_90 qsize_98 qrows_99 qwork_100 qxx_101 qpower) := hD.sub [0, 1, 2, 3, 4, 5, 6, 7, 8, 9, 10, 11, 12] (by decide) rfl
              refine W.widen (k := 13 + 4 * (k + 1)) (n := 12939 + 24 * (k + 1)) (by omega) (by omega) ?_
              refine lv_istore (lv' := [(6, .int r91), (5, .int r82), (0, .ref b), (1, .ref a0), (2, .ref m0), (3, .ref o0), (4, .int x4)]) hx hb d_L_law_351 hl (by decide) rfl (fun ls hl => ?_)
              refine lv_aload_n hx hb d_L_law_353 rfl (lv_at hl 4 rfl) ?_
              have hPc := hP.sub (ws' := (wM m0 m1 m2 m3 m4 m5 k1 k2 k3 k4 k5 qcode_92 qfuns_93 qmade_94 qgreat_95 qup_96 qdown_97 qsize_98 qrows_99 qwork_100 qxx_101 qpower)) [7, 8, 9, 10, 11, 12] rfl
              have hDc := hD.sub (ws' := (wM m0 m1 m2 m3 m4 m5 k1 k2 k3 k4 k5 qcode_92 qfuns_93 qmade_94 qgreat_95 qup_96 qdown_97 qsize_98 qrows_99 qwork_100 qxx_101 qpower)) [7, 8, 9, 10, 11, 12] (by decide) rfl
              have hKc := hK.sub (tys' := [(k1, .int), (k2, .int), (k3, .int), (k4, .int), (k5, .int)]) [5, 6, 7, 8, 9] rfl
              have hFc := va_free (wc := (wM m0 m1 m2 m3 m4 m5 k1 k2 k3 k4 k5 qcode_92 qfuns_93 qmade_94 qgreat_95 qup_96 qdown_97 qsize_98 qrows_99 qwork_100 qxx_101 qpower)) hD hS hA [7, 8, 9, 10, 11, 12] rfl
              refine va_calli (va_runV (As := []) (rest := []) ⟨hx, hb, hml, hown, hB⟩ (c_M_thrown l D m0 m1 m2 m3 m4 m5 k1 k2 k3 k4 k5 H.size qcode_92 qfuns_93 qmade_94 qgreat_95 qup_96 qdown_97 qsize_98 qrows_99 qwork_100 qxx_101 qpower _) (cwV 0 hB (goodV wd_349 wd_350 wd_351 wd_3 wd_352) rfl rfl rfl (by decide +kernel) ⟨Nat.le_of_ble_eq_true rfl, Nat.le_of_ble_eq_true rfl⟩) ⟨pcG_blind, va_recv hKc hPc (ci := 2) (q0 := 0) rfl rfl, pcG_pre hPc hKc hDc h⟩ rfl rfl hl.1 rfl (lv_room (Nat.le_of_ble_eq_true rfl)) d_L_law_354 ⟨by show _ ≤ 601024; omega, by show _ ≤ 7293034; omega⟩) hS (fun q _ h => hFc q h) hFc (fun r102 u t H1 locs ht hvm h hBu hz1 hk1 hS => ?_)
              obtain ⟨hP1, hK1, hD1⟩ := hBu
              rw [ht] at hP1
              obtain ⟨hP, hD⟩ := va_join (wr := [(o0, .inl (co, 1, .inr (.inl out_86))), (a0, .inr (1, [.ref a1, .ref a2, .ref a3, .int made_83])), (a1, .inl (c1, 5600, .inl kept_87)), (a2, .inl (c2, 80, .inl sizes_88)), (a3, .inr (0, [.ref a4, .ref a5, .int size_84, .int tooG_85])), (a4, .inl (c4, 700, .inl rows_89)), (a5, .inl (c5, 7, .inl taken_90))]) (w1 := (wM m0 m1 m2 m3 m4 m5 k1 k2 k3 k4 k5 qcode_92 qfuns_93 qmade_94 qgreat_95 qup_96 qdown_97 qsize_98 qrows_99 qwork_100 qxx_101 qpower)) hP hD [7, 8, 9, 10, 11, 12] [0, 1, 2, 3, 4, 5, 6] rfl rfl (by decide) (by decide) hk1 hFc hP1 hD1
              generalize H1 = H at hP hS ⊢
              have hP : va_P D vwCl (wL o0 a0 a1 a2 a3 a4 a5 m0 m1 m2 m3 m4 m5 co c1 c2 c4 c5 k1 k2 k3 k4 k5 made_83 size_84 tooG_85 qcode_92 qfuns_93 qmade_94 qgreat_95 qup_96 qdown_97 out_86 kept_87 sizes_88 rows_89 taken_90 qsize_98 qrows_99 qwork_100 qxx_101 qpower) H := hP.sub [0, 1, 2, 3, 4, 5, 6, 7, 8, 9, 10, 11, 12] rfl
              have hD : va_D A (wL o0 a0 a1 a2 a3 a4 a5 m0 m1 m2 m3 m4 m5 co c1 c2 c4 c5 k1 k2 k3 k4 k5 made_83 size_84 tooG_85 qcode_92 qfuns_93 qmade_94 qgreat_95 qup_96 qdown_97 out_86 kept_87 sizes_88 rows_89 taken_90 qsize_98 qrows_99 qwork_100 qxx_101 qpower) := hD.sub [0, 1, 2, 3, 4, 5, 6, 7, 8, 9, 10, 11, 12] (by decide) rfl
              refine W.widen (k := 13 + 4 * (k + 1)) (n := 12939 + 24 * (k + 1)) (by omega) (by omega) ?_
              refine lv_iload hx hb d_L_law_357 (lv_at hl 1 rfl) ?_
              refine lv_icmp_eq (tgt := 364) hx hb d_L_law_359 (by decide) (fun hc103 => ?_) (fun hc103 => ?_)
              · replace h := h.1 hc103
                refine lv_iload hx hb d_L_law_364 (lv_at hl 1 rfl) ?_
                refine lv_if_ne (tgt := 381) hx hb d_L_law_366 (by decide) (fun hc104 => ?_) (fun hc104 => ?_)
                · replace h := h.1 hc104
                  refine lv_goto (tgt := 1227) hx hb d_L_law_381 (by decide) ?_
                  obtain ⟨x105, ex105⟩ : ∃ z : Int32, z = x4 + 4 := ⟨_, rfl⟩
                  refine lv_iinc (v := x105) (lv' := [(4, .int x105), (6, .int r91), (5, .int r82), (0, .ref b), (1, .ref a0), (2, .ref m0), (3, .ref o0)]) hx hb d_L_law_1227 hl (k := 6) rfl (by rw [ex105]; rfl) (by decide) rfl (fun ls hl => ?_)
                  refine lv_goto (tgt := 23) hx hb d_L_law_1230 (by decide) ?_
                  exact ihn (k + 1) x105 made_83 size_84 tooG_85 qcode_92 qfuns_93 qmade_94 qgreat_95 qup_96 qdown_97 out_86 kept_87 sizes_88 rows_89 taken_90 qsize_98 qrows_99 qwork_100 qxx_101 qpower _ _ _ (by omega) (by omega) (by rw [ex105, ex4]; exact (nI_add _ 4).trans (by rw [show 4 * (k + 1) = 4 * k + 4 by omega])) h hP hD hS (lv_sub hl [3, 4, 5, 6, 0] rfl)
                · replace h := h.2 hc104
                  refine lv_aload_n hx hb d_L_law_369 rfl (lv_at hl 5 rfl) ?_
                  refine lv_iconst (v := 0) hx hb d_L_law_370 (by decide) ?_
                  obtain ⟨g106, h⟩ := h
                  refine va_lald hx hb hK hP 0 0 rfl rfl g106 d_L_law_371 ?_
                  refine lv_iload hx hb d_L_law_372 (lv_at hl 0 rfl) ?_
                  refine lv_i2l hx hb d_L_law_374 rfl ?_
                  refine W.lcmp hx hb d_L_law_375 ?_
                  refine lv_if_eq (tgt := 381) hx hb d_L_law_376 (by decide) (fun hc107 => ?_) (fun hc107 => ?_)
                  · replace h := h.1 hc107
                    refine lv_goto (tgt := 1227) hx hb d_L_law_381 (by decide) ?_
                    obtain ⟨x108, ex108⟩ : ∃ z : Int32, z = x4 + 4 := ⟨_, rfl⟩
                    refine lv_iinc (v := x108) (lv' := [(4, .int x108), (6, .int r91), (5, .int r82), (0, .ref b), (1, .ref a0), (2, .ref m0), (3, .ref o0)]) hx hb d_L_law_1227 hl (k := 6) rfl (by rw [ex108]; rfl) (by decide) rfl (fun ls hl => ?_)
                    refine lv_goto (tgt := 23) hx hb d_L_law_1230 (by decide) ?_
                    exact ihn (k + 1) x108 made_83 size_84 tooG_85 qcode_92 qfuns_93 qmade_94 qgreat_95 qup_96 qdown_97 out_86 kept_87 sizes_88 rows_89 taken_90 qsize_98 qrows_99 qwork_100 qxx_101 qpower _ _ _ (by omega) (by omega) (by rw [ex108, ex4]; exact (nI_add _ 4).trans (by rw [show 4 * (k + 1) = 4 * k + 4 by omega])) h hP hD hS (lv_sub hl [3, 4, 5, 6, 0] rfl)
                  · replace h := h.2 hc107
                    refine lv_iconst (v := 0) hx hb d_L_law_379 (by decide) ?_
                    exact (show False from h).elim
              · replace h := h.2 hc103
                refine lv_iconst (v := 0) hx hb d_L_law_362 (by decide) ?_
                exact (show False from h).elim
            · replace h := h.2 t3
              by_cases t4 : sw = 4
              · replace h := h.1 t4
                clear esw
                subst t4
                refine lv_tableIn (off := 345) (tgt := 384) hx hb d_L_law_39 (by decide) (by decide) (by decide +kernel) (by decide) ?_
                refine lv_aload_n hx hb d_L_law_384 rfl (lv_at hl 1 rfl) ?_
                refine lv_aload_n hx hb d_L_law_385 rfl (lv_at hl 0 rfl) ?_
                refine lv_iload hx hb d_L_law_386 (lv_at hl 4 rfl) ?_
                refine lv_iconst (v := 1) hx hb d_L_law_388 (by decide) ?_
                refine lv_iadd hx hb d_L_law_389 ?_
                refine va_sld hx hb hX hbl hbA hS hi1 d_L_law_390 ?_
                rw [← es1]
                refine lv_aload_n hx hb d_L_law_391 rfl (lv_at hl 0 rfl) ?_
                refine lv_iload hx hb d_L_law_392 (lv_at hl 4 rfl) ?_
                refine lv_iconst (v := 2) hx hb d_L_law_394 (by decide) ?_
                refine lv_iadd hx hb d_L_law_395 ?_
                refine va_sld hx hb hX hbl hbA hS hi2 d_L_law_396 ?_
                rw [← es2]
                refine lv_aload_n hx hb d_L_law_397 rfl (lv_at hl 3 rfl) ?_
                have hPc := hP.sub (ws' := (wO o0 a0 a1 a2 a3 a4 a5 co c1 c2 c4 c5 made size tooG out kept sizes rows taken)) [0, 1, 2, 3, 4, 5, 6] rfl
                have hDc := hD.sub (ws' := (wO o0 a0 a1 a2 a3 a4 a5 co c1 c2 c4 c5 made size tooG out kept sizes rows taken)) [0, 1, 2, 3, 4, 5, 6] (by decide) rfl
                have hKc := hK.sub (tys' := [(co, .long), (c1, .int), (c2, .int), (c4, .int), (c5, .int)]) [0, 1, 2, 3, 4] rfl
                have hFc := va_free (wc := (wO o0 a0 a1 a2 a3 a4 a5 co c1 c2 c4 c5 made size tooG out kept sizes rows taken)) hD hS hA [0, 1, 2, 3, 4, 5, 6] rfl
                refine va_calli (vx_runSW (As := [.ref a0, .int s1, .int s2, .ref o0]) (rest := []) ⟨hx, hb, hml, hown, hB⟩ (c_L_over l D o0 a0 a1 a2 a3 a4 a5 co c1 c2 c4 c5 H.size made size tooG out kept sizes rows taken s1 s2 _ hst) (vx_cwSW 4 hB (goodSW wd_208 wd_209 wd_0 wd_210) rfl rfl rfl (by decide +kernel) ⟨Nat.le_of_ble_eq_true rfl, Nat.le_of_ble_eq_true rfl⟩) ⟨pcH_blind, pcH_pre hPc hKc hDc hS hXH hFc h⟩ rfl rfl hl.1 rfl (lv_room (Nat.le_of_ble_eq_true rfl)) d_L_law_398 ⟨by show _ ≤ 601024; omega, by show _ ≤ 7293034; omega⟩) hS (fun q _ h => hFc q h) hFc (fun r109 u t H1 locs ht hvm h hBu hz1 hk1 hS => ?_)
                obtain ⟨made_110, size_111, tooG_112, out_113, kept_114, sizes_115, rows_116, taken_117⟩ := u
                obtain ⟨hP1, hK1, hD1⟩ := hBu
                rw [ht] at hP1
                obtain ⟨hP, hD⟩ := va_join (wr := [(m0, .inr (2, [.int qcode, .int qfuns, .ref m1, .ref m2, .int qmade, .ref m3, .int qgreat, .ref m4, .ref m5, .long qup, .long qdown])), (m1, .inl (k1, 80, .inl qsize)), (m2, .inl (k2, 5600, .inl qrows)), (m3, .inl (k3, 840, .inl qwork)), (m4, .inl (k4, 7, .inl qxx)), (m5, .inl (k5, 5, .inl qpower))]) (w1 := (wO o0 a0 a1 a2 a3 a4 a5 co c1 c2 c4 c5 made_110 size_111 tooG_112 out_113 kept_114 sizes_115 rows_116 taken_117)) hP hD [0, 1, 2, 3, 4, 5, 6] [7, 8, 9, 10, 11, 12] rfl rfl (by decide) (by decide) hk1 hFc hP1 hD1
                generalize H1 = H at hP hS ⊢
                have hP : va_P D vwCl (wL o0 a0 a1 a2 a3 a4 a5 m0 m1 m2 m3 m4 m5 co c1 c2 c4 c5 k1 k2 k3 k4 k5 made_110 size_111 tooG_112 qcode qfuns qmade qgreat qup qdown out_113 kept_114 sizes_115 rows_116 taken_117 qsize qrows qwork qxx qpower) H := hP.sub [6, 7, 8, 9, 10, 11, 12, 0, 1, 2, 3, 4, 5] rfl
                have hD : va_D A (wL o0 a0 a1 a2 a3 a4 a5 m0 m1 m2 m3 m4 m5 co c1 c2 c4 c5 k1 k2 k3 k4 k5 made_110 size_111 tooG_112 qcode qfuns qmade qgreat qup qdown out_113 kept_114 sizes_115 rows_116 taken_117 qsize qrows qwork qxx qpower) := hD.sub [6, 7, 8, 9, 10, 11, 12, 0, 1, 2, 3, 4, 5] (by decide) rfl
                refine W.widen (k := 13 + 4 * (k + 1)) (n := 12939 + 24 * (k + 1)) (by omega) (by omega) ?_
                refine lv_istore (lv' := [(5, .int r109), (0, .ref b), (1, .ref a0), (2, .ref m0), (3, .ref o0), (4, .int x4)]) hx hb d_L_law_401 hl (by decide) rfl (fun ls hl => ?_)
                refine lv_aload_n hx hb d_L_law_403 rfl (lv_at hl 3 rfl) ?_
                refine lv_aload_n hx hb d_L_law_404 rfl (lv_at hl 1 rfl) ?_
                refine lv_iload hx hb d_L_law_405 (lv_at hl 5 rfl) ?_
                refine lv_iconst (v := 1) hx hb d_L_law_407 (by decide) ?_
                refine lv_iadd hx hb d_L_law_408 ?_
                refine va_sld hx hb hX hbl hbA hS hi1 d_L_law_409 ?_
                rw [← es1]
                refine lv_aload_n hx hb d_L_law_410 rfl (lv_at hl 1 rfl) ?_
                refine lv_iload hx hb d_L_law_411 (lv_at hl 5 rfl) ?_
                refine lv_iconst (v := 2) hx hb d_L_law_413 (by decide) ?_
                refine lv_iadd hx hb d_L_law_414 ?_
                refine va_sld hx hb hX hbl hbA hS hi2 d_L_law_415 ?_
                rw [← es2]
                have hPc := hP.sub (ws' := (wM m0 m1 m2 m3 m4 m5 k1 k2 k3 k4 k5 qcode qfuns qmade qgreat qup qdown qsize qrows qwork qxx qpower)) [7, 8, 9, 10, 11, 12] rfl
                have hDc := hD.sub (ws' := (wM m0 m1 m2 m3 m4 m5 k1 k2 k3 k4 k5 qcode qfuns qmade qgreat qup qdown qsize qrows qwork qxx qpower)) [7, 8, 9, 10, 11, 12] (by decide) rfl
                have hKc := hK.sub (tys' := [(k1, .int), (k2, .int), (k3, .int), (k4, .int), (k5, .int)]) [5, 6, 7, 8, 9] rfl
                have hFc := va_free (wc := (wM m0 m1 m2 m3 m4 m5 k1 k2 k3 k4 k5 qcode qfuns qmade qgreat qup qdown qsize qrows qwork qxx qpower)) hD hS hA [7, 8, 9, 10, 11, 12] rfl
                refine va_calli (va_runV (As := [.int s1, .int s2]) (rest := []) ⟨hx, hb, hml, hown, hB⟩ (c_M_over l D m0 m1 m2 m3 m4 m5 k1 k2 k3 k4 k5 H.size qcode qfuns qmade qgreat qup qdown qsize qrows qwork qxx qpower s1 s2 _) (cwV 2 hB (goodV wd_421 wd_422 wd_423 wd_3 wd_424) rfl rfl rfl (by decide +kernel) ⟨Nat.le_of_ble_eq_true rfl, Nat.le_of_ble_eq_true rfl⟩) ⟨pcG_blind, va_recv hKc hPc (ci := 2) (q0 := 0) rfl rfl, pcG_pre hPc hKc hDc h⟩ rfl rfl hl.1 rfl (lv_room (Nat.le_of_ble_eq_true rfl)) d_L_law_416 ⟨by show _ ≤ 601024; omega, by show _ ≤ 7293034; omega⟩) hS (fun q _ h => hFc q h) hFc (fun r118 u t H1 locs ht hvm h hBu hz1 hk1 hS => ?_)
                obtain ⟨qcode_119, qfuns_120, qmade_121, qgreat_122, qup_123, qdown_124, qsize_125, qrows_126, qwork_127, qxx_128⟩ := u
                obtain ⟨hP1, hK1, hD1⟩ := hBu
                rw [ht] at hP1
                obtain ⟨hP, hD⟩ := va_join (wr := [(o0, .inl (co, 1, .inr (.inl out_113))), (a0, .inr (1, [.ref a1, .ref a2, .ref a3, .int made_110])), (a1, .inl (c1, 5600, .inl kept_114)), (a2, .inl (c2, 80, .inl sizes_115)), (a3, .inr (0, [.ref a4, .ref a5, .int size_111, .int tooG_112])), (a4, .inl (c4, 700, .inl rows_116)), (a5, .inl (c5, 7, .inl taken_117))]) (w1 := (wM m0 m1 m2 m3 m4 m5 k1 k2 k3 k4 k5 qcode_119 qfuns_120 qmade_121 qgreat_122 qup_123 qdown_124 qsize_125 qrows_126 qwork_127 qxx_128 qpower)) hP hD [7, 8, 9, 10, 11, 12] [0, 1, 2, 3, 4, 5, 6] rfl rfl (by decide) (by decide) hk1 hFc hP1 hD1
                generalize H1 = H at hP hS ⊢
                have hP : va_P D vwCl (wL o0 a0 a1 a2 a3 a4 a5 m0 m1 m2 m3 m4 m5 co c1 c2 c4 c5 k1 k2 k3 k4 k5 made_110 size_111 tooG_112 qcode_119 qfuns_120 qmade_121 qgreat_122 qup_123 qdown_124 out_113 kept_114 sizes_115 rows_116 taken_117 qsize_125 qrows_126 qwork_127 qxx_128 qpower) H := hP.sub [0, 1, 2, 3, 4, 5, 6, 7, 8, 9, 10, 11, 12] rfl
                have hD : va_D A (wL o0 a0 a1 a2 a3 a4 a5 m0 m1 m2 m3 m4 m5 co c1 c2 c4 c5 k1 k2 k3 k4 k5 made_110 size_111 tooG_112 qcode_119 qfuns_120 qmade_121 qgreat_122 qup_123 qdown_124 out_113 kept_114 sizes_115 rows_116 taken_117 qsize_125 qrows_126 qwork_127 qxx_128 qpower) := hD.sub [0, 1, 2, 3, 4, 5, 6, 7, 8, 9, 10, 11, 12] (by decide) rfl
                refine W.widen (k := 13 + 4 * (k + 1)) (n := 12939 + 24 * (k + 1)) (by omega) (by omega) ?_
                refine lv_istore (lv' := [(6, .int r118), (5, .int r109), (0, .ref b), (1, .ref a0), (2, .ref m0), (3, .ref o0), (4, .int x4)]) hx hb d_L_law_419 hl (by decide) rfl (fun ls hl => ?_)
                refine lv_aload_n hx hb d_L_law_421 rfl (lv_at hl 4 rfl) ?_
                have hPc := hP.sub (ws' := (wM m0 m1 m2 m3 m4 m5 k1 k2 k3 k4 k5 qcode_119 qfuns_120 qmade_121 qgreat_122 qup_123 qdown_124 qsize_125 qrows_126 qwork_127 qxx_128 qpower)) [7, 8, 9, 10, 11, 12] rfl
                have hDc := hD.sub (ws' := (wM m0 m1 m2 m3 m4 m5 k1 k2 k3 k4 k5 qcode_119 qfuns_120 qmade_121 qgreat_122 qup_123 qdown_124 qsize_125 qrows_126 qwork_127 qxx_128 qpower)) [7, 8, 9, 10, 11, 12] (by decide) rfl
                have hKc := hK.sub (tys' := [(k1, .int), (k2, .int), (k3, .int), (k4, .int), (k5, .int)]) [5, 6, 7, 8, 9] rfl
                have hFc := va_free (wc := (wM m0 m1 m2 m3 m4 m5 k1 k2 k3 k4 k5 qcode_119 qfuns_120 qmade_121 qgreat_122 qup_123 qdown_124 qsize_125 qrows_126 qwork_127 qxx_128 qpower)) hD hS hA [7, 8, 9, 10, 11, 12] rfl
                refine va_calli (va_runV (As := []) (rest := []) ⟨hx, hb, hml, hown, hB⟩ (c_M_thrown l D m0 m1 m2 m3 m4 m5 k1 k2 k3 k4 k5 H.size qcode_119 qfuns_120 qmade_121 qgreat_122 qup_123 qdown_124 qsize_125 qrows_126 qwork_127 qxx_128 qpower _) (cwV 0 hB (goodV wd_349 wd_350 wd_351 wd_3 wd_352) rfl rfl rfl (by decide +kernel) ⟨Nat.le_of_ble_eq_true rfl, Nat.le_of_ble_eq_true rfl⟩) ⟨pcG_blind, va_recv hKc hPc (ci := 2) (q0 := 0) rfl rfl, pcG_pre hPc hKc hDc h⟩ rfl rfl hl.1 rfl (lv_room (Nat.le_of_ble_eq_true rfl)) d_L_law_422 ⟨by show _ ≤ 601024; omega, by show _ ≤ 7293034; omega⟩) hS (fun q _ h => hFc q h) hFc (fun r129 u t H1 locs ht hvm h hBu hz1 hk1 hS => ?_)
                obtain ⟨hP1, hK1, hD1⟩ := hBu
                rw [ht] at hP1
                obtain ⟨hP, hD⟩ := va_join (wr := [(o0, .inl (co, 1, .inr (.inl out_113))), (a0, .inr (1, [.ref a1, .ref a2, .ref a3, .int made_110])), (a1, .inl (c1, 5600, .inl kept_114)), (a2, .inl (c2, 80, .inl sizes_115)), (a3, .inr (0, [.ref a4, .ref a5, .int size_111, .int tooG_112])), (a4, .inl (c4, 700, .inl rows_116)), (a5, .inl (c5, 7, .inl taken_117))]) (w1 := (wM m0 m1 m2 m3 m4 m5 k1 k2 k3 k4 k5 qcode_119 qfuns_120 qmade_121 qgreat_122 qup_123 qdown_124 qsize_125 qrows_126 qwork_127 qxx_128 qpower)) hP hD [7, 8, 9, 10, 11, 12] [0, 1, 2, 3, 4, 5, 6] rfl rfl (by decide) (by decide) hk1 hFc hP1 hD1
                generalize H1 = H at hP hS ⊢
                have hP : va_P D vwCl (wL o0 a0 a1 a2 a3 a4 a5 m0 m1 m2 m3 m4 m5 co c1 c2 c4 c5 k1 k2 k3 k4 k5 made_110 size_111 tooG_112 qcode_119 qfuns_120 qmade_121 qgreat_122 qup_123 qdown_124 out_113 kept_114 sizes_115 rows_116 taken_117 qsize_125 qrows_126 qwork_127 qxx_128 qpower) H := hP.sub [0, 1, 2, 3, 4, 5, 6, 7, 8, 9, 10, 11, 12] rfl
                have hD : va_D A (wL o0 a0 a1 a2 a3 a4 a5 m0 m1 m2 m3 m4 m5 co c1 c2 c4 c5 k1 k2 k3 k4 k5 made_110 size_111 tooG_112 qcode_119 qfuns_120 qmade_121 qgreat_122 qup_123 qdown_124 out_113 kept_114 sizes_115 rows_116 taken_117 qsize_125 qrows_126 qwork_127 qxx_128 qpower) := hD.sub [0, 1, 2, 3, 4, 5, 6, 7, 8, 9, 10, 11, 12] (by decide) rfl
                refine W.widen (k := 13 + 4 * (k + 1)) (n := 12939 + 24 * (k + 1)) (by omega) (by omega) ?_
                refine lv_iload hx hb d_L_law_425 (lv_at hl 1 rfl) ?_
                refine lv_icmp_eq (tgt := 432) hx hb d_L_law_427 (by decide) (fun hc130 => ?_) (fun hc130 => ?_)
                · replace h := h.1 hc130
                  refine lv_iload hx hb d_L_law_432 (lv_at hl 1 rfl) ?_
                  refine lv_if_ne (tgt := 449) hx hb d_L_law_434 (by decide) (fun hc131 => ?_) (fun hc131 => ?_)
                  · replace h := h.1 hc131
                    refine lv_goto (tgt := 1227) hx hb d_L_law_449 (by decide) ?_
                    obtain ⟨x132, ex132⟩ : ∃ z : Int32, z = x4 + 4 := ⟨_, rfl⟩
                    refine lv_iinc (v := x132) (lv' := [(4, .int x132), (6, .int r118), (5, .int r109), (0, .ref b), (1, .ref a0), (2, .ref m0), (3, .ref o0)]) hx hb d_L_law_1227 hl (k := 6) rfl (by rw [ex132]; rfl) (by decide) rfl (fun ls hl => ?_)
                    refine lv_goto (tgt := 23) hx hb d_L_law_1230 (by decide) ?_
                    exact ihn (k + 1) x132 made_110 size_111 tooG_112 qcode_119 qfuns_120 qmade_121 qgreat_122 qup_123 qdown_124 out_113 kept_114 sizes_115 rows_116 taken_117 qsize_125 qrows_126 qwork_127 qxx_128 qpower _ _ _ (by omega) (by omega) (by rw [ex132, ex4]; exact (nI_add _ 4).trans (by rw [show 4 * (k + 1) = 4 * k + 4 by omega])) h hP hD hS (lv_sub hl [3, 4, 5, 6, 0] rfl)
                  · replace h := h.2 hc131
                    refine lv_aload_n hx hb d_L_law_437 rfl (lv_at hl 5 rfl) ?_
                    refine lv_iconst (v := 0) hx hb d_L_law_438 (by decide) ?_
                    obtain ⟨g133, h⟩ := h
                    refine va_lald hx hb hK hP 0 0 rfl rfl g133 d_L_law_439 ?_
                    refine lv_iload hx hb d_L_law_440 (lv_at hl 0 rfl) ?_
                    refine lv_i2l hx hb d_L_law_442 rfl ?_
                    refine W.lcmp hx hb d_L_law_443 ?_
                    refine lv_if_eq (tgt := 449) hx hb d_L_law_444 (by decide) (fun hc134 => ?_) (fun hc134 => ?_)
                    · replace h := h.1 hc134
                      refine lv_goto (tgt := 1227) hx hb d_L_law_449 (by decide) ?_
                      obtain ⟨x135, ex135⟩ : ∃ z : Int32, z = x4 + 4 := ⟨_, rfl⟩
                      refine lv_iinc (v := x135) (lv' := [(4, .int x135), (6, .int r118), (5, .int r109), (0, .ref b), (1, .ref a0), (2, .ref m0), (3, .ref o0)]) hx hb d_L_law_1227 hl (k := 6) rfl (by rw [ex135]; rfl) (by decide) rfl (fun ls hl => ?_)
                      refine lv_goto (tgt := 23) hx hb d_L_law_1230 (by decide) ?_
                      exact ihn (k + 1) x135 made_110 size_111 tooG_112 qcode_119 qfuns_120 qmade_121 qgreat_122 qup_123 qdown_124 out_113 kept_114 sizes_115 rows_116 taken_117 qsize_125 qrows_126 qwork_127 qxx_128 qpower _ _ _ (by omega) (by omega) (by rw [ex135, ex4]; exact (nI_add _ 4).trans (by rw [show 4 * (k + 1) = 4 * k + 4 by omega])) h hP hD hS (lv_sub hl [3, 4, 5, 6, 0] rfl)
                    · replace h := h.2 hc134
                      refine lv_iconst (v := 0) hx hb d_L_law_447 (by decide) ?_
                      exact (show False from h).elim
                · replace h := h.2 hc130
                  refine lv_iconst (v := 0) hx hb d_L_law_430 (by decide) ?_
                  exact (show False from h).elim
              · replace h := h.2 t4
                by_cases t5 : sw = 5
                · replace h := h.1 t5
                  clear esw
                  subst t5
                  refine lv_tableIn (off := 413) (tgt := 452) hx hb d_L_law_39 (by decide) (by decide) (by decide +kernel) (by decide) ?_
                  refine lv_aload_n hx hb d_L_law_452 rfl (lv_at hl 1 rfl) ?_
                  refine lv_aload_n hx hb d_L_law_453 rfl (lv_at hl 0 rfl) ?_
                  refine lv_iload hx hb d_L_law_454 (lv_at hl 4 rfl) ?_
                  refine lv_iconst (v := 1) hx hb d_L_law_456 (by decide) ?_
                  refine lv_iadd hx hb d_L_law_457 ?_
                  refine va_sld hx hb hX hbl hbA hS hi1 d_L_law_458 ?_
                  rw [← es1]
                  refine lv_aload_n hx hb d_L_law_459 rfl (lv_at hl 3 rfl) ?_
                  have hPc := hP.sub (ws' := (wO o0 a0 a1 a2 a3 a4 a5 co c1 c2 c4 c5 made size tooG out kept sizes rows taken)) [0, 1, 2, 3, 4, 5, 6] rfl
                  have hDc := hD.sub (ws' := (wO o0 a0 a1 a2 a3 a4 a5 co c1 c2 c4 c5 made size tooG out kept sizes rows taken)) [0, 1, 2, 3, 4, 5, 6] (by decide) rfl
                  have hKc := hK.sub (tys' := [(co, .long), (c1, .int), (c2, .int), (c4, .int), (c5, .int)]) [0, 1, 2, 3, 4] rfl
                  have hFc := va_free (wc := (wO o0 a0 a1 a2 a3 a4 a5 co c1 c2 c4 c5 made size tooG out kept sizes rows taken)) hD hS hA [0, 1, 2, 3, 4, 5, 6] rfl
                  refine va_calli (vx_runSW (As := [.ref a0, .int s1, .ref o0]) (rest := []) ⟨hx, hb, hml, hown, hB⟩ (c_L_derive l D o0 a0 a1 a2 a3 a4 a5 co c1 c2 c4 c5 H.size made size tooG out kept sizes rows taken s1 _ hst) (vx_cwSW 3 hB (goodSW wd_219 wd_220 wd_0 wd_221) rfl rfl rfl (by decide +kernel) ⟨Nat.le_of_ble_eq_true rfl, Nat.le_of_ble_eq_true rfl⟩) ⟨pcH_blind, pcH_pre hPc hKc hDc hS hXH hFc h⟩ rfl rfl hl.1 rfl (lv_room (Nat.le_of_ble_eq_true rfl)) d_L_law_460 ⟨by show _ ≤ 601024; omega, by show _ ≤ 7293034; omega⟩) hS (fun q _ h => hFc q h) hFc (fun r136 u t H1 locs ht hvm h hBu hz1 hk1 hS => ?_)
                  obtain ⟨made_137, size_138, tooG_139, out_140, kept_141, sizes_142, rows_143, taken_144⟩ := u
                  obtain ⟨hP1, hK1, hD1⟩ := hBu
                  rw [ht] at hP1
                  obtain ⟨hP, hD⟩ := va_join (wr := [(m0, .inr (2, [.int qcode, .int qfuns, .ref m1, .ref m2, .int qmade, .ref m3, .int qgreat, .ref m4, .ref m5, .long qup, .long qdown])), (m1, .inl (k1, 80, .inl qsize)), (m2, .inl (k2, 5600, .inl qrows)), (m3, .inl (k3, 840, .inl qwork)), (m4, .inl (k4, 7, .inl qxx)), (m5, .inl (k5, 5, .inl qpower))]) (w1 := (wO o0 a0 a1 a2 a3 a4 a5 co c1 c2 c4 c5 made_137 size_138 tooG_139 out_140 kept_141 sizes_142 rows_143 taken_144)) hP hD [0, 1, 2, 3, 4, 5, 6] [7, 8, 9, 10, 11, 12] rfl rfl (by decide) (by decide) hk1 hFc hP1 hD1
                  generalize H1 = H at hP hS ⊢
                  have hP : va_P D vwCl (wL o0 a0 a1 a2 a3 a4 a5 m0 m1 m2 m3 m4 m5 co c1 c2 c4 c5 k1 k2 k3 k4 k5 made_137 size_138 tooG_139 qcode qfuns qmade qgreat qup qdown out_140 kept_141 sizes_142 rows_143 taken_144 qsize qrows qwork qxx qpower) H := hP.sub [6, 7, 8, 9, 10, 11, 12, 0, 1, 2, 3, 4, 5] rfl
                  have hD : va_D A (wL o0 a0 a1 a2 a3 a4 a5 m0 m1 m2 m3 m4 m5 co c1 c2 c4 c5 k1 k2 k3 k4 k5 made_137 size_138 tooG_139 qcode qfuns qmade qgreat qup qdown out_140 kept_141 sizes_142 rows_143 taken_144 qsize qrows qwork qxx qpower) := hD.sub [6, 7, 8, 9, 10, 11, 12, 0, 1, 2, 3, 4, 5] (by decide) rfl
                  refine W.widen (k := 13 + 4 * (k + 1)) (n := 12939 + 24 * (k + 1)) (by omega) (by omega) ?_
                  refine lv_istore (lv' := [(5, .int r136), (0, .ref b), (1, .ref a0), (2, .ref m0), (3, .ref o0), (4, .int x4)]) hx hb d_L_law_463 hl (by decide) rfl (fun ls hl => ?_)
                  refine lv_aload_n hx hb d_L_law_465 rfl (lv_at hl 3 rfl) ?_
                  refine lv_aload_n hx hb d_L_law_466 rfl (lv_at hl 1 rfl) ?_
                  refine lv_iload hx hb d_L_law_467 (lv_at hl 5 rfl) ?_
                  refine lv_iconst (v := 1) hx hb d_L_law_469 (by decide) ?_
                  refine lv_iadd hx hb d_L_law_470 ?_
                  refine va_sld hx hb hX hbl hbA hS hi1 d_L_law_471 ?_
                  rw [← es1]
                  have hPc := hP.sub (ws' := (wM m0 m1 m2 m3 m4 m5 k1 k2 k3 k4 k5 qcode qfuns qmade qgreat qup qdown qsize qrows qwork qxx qpower)) [7, 8, 9, 10, 11, 12] rfl
                  have hDc := hD.sub (ws' := (wM m0 m1 m2 m3 m4 m5 k1 k2 k3 k4 k5 qcode qfuns qmade qgreat qup qdown qsize qrows qwork qxx qpower)) [7, 8, 9, 10, 11, 12] (by decide) rfl
                  have hKc := hK.sub (tys' := [(k1, .int), (k2, .int), (k3, .int), (k4, .int), (k5, .int)]) [5, 6, 7, 8, 9] rfl
                  have hFc := va_free (wc := (wM m0 m1 m2 m3 m4 m5 k1 k2 k3 k4 k5 qcode qfuns qmade qgreat qup qdown qsize qrows qwork qxx qpower)) hD hS hA [7, 8, 9, 10, 11, 12] rfl
                  refine va_calli (va_runV (As := [.int s1]) (rest := []) ⟨hx, hb, hml, hown, hB⟩ (c_M_derive l D m0 m1 m2 m3 m4 m5 k1 k2 k3 k4 k5 H.size qcode qfuns qmade qgreat qup qdown qsize qrows qwork qxx qpower s1 _) (cwV 1 hB (goodV wd_425 wd_426 wd_427 wd_3 wd_428) rfl rfl rfl (by decide +kernel) ⟨Nat.le_of_ble_eq_true rfl, Nat.le_of_ble_eq_true rfl⟩) ⟨pcG_blind, va_recv hKc hPc (ci := 2) (q0 := 0) rfl rfl, pcG_pre hPc hKc hDc h⟩ rfl rfl hl.1 rfl (lv_room (Nat.le_of_ble_eq_true rfl)) d_L_law_472 ⟨by show _ ≤ 601024; omega, by show _ ≤ 7293034; omega⟩) hS (fun q _ h => hFc q h) hFc (fun r145 u t H1 locs ht hvm h hBu hz1 hk1 hS => ?_)
                  obtain ⟨qcode_146, qfuns_147, qmade_148, qgreat_149, qup_150, qdown_151, qsize_152, qrows_153, qwork_154, qxx_155⟩ := u
                  obtain ⟨hP1, hK1, hD1⟩ := hBu
                  rw [ht] at hP1
                  obtain ⟨hP, hD⟩ := va_join (wr := [(o0, .inl (co, 1, .inr (.inl out_140))), (a0, .inr (1, [.ref a1, .ref a2, .ref a3, .int made_137])), (a1, .inl (c1, 5600, .inl kept_141)), (a2, .inl (c2, 80, .inl sizes_142)), (a3, .inr (0, [.ref a4, .ref a5, .int size_138, .int tooG_139])), (a4, .inl (c4, 700, .inl rows_143)), (a5, .inl (c5, 7, .inl taken_144))]) (w1 := (wM m0 m1 m2 m3 m4 m5 k1 k2 k3 k4 k5 qcode_146 qfuns_147 qmade_148 qgreat_149 qup_150 qdown_151 qsize_152 qrows_153 qwork_154 qxx_155 qpower)) hP hD [7, 8, 9, 10, 11, 12] [0, 1, 2, 3, 4, 5, 6] rfl rfl (by decide) (by decide) hk1 hFc hP1 hD1
                  generalize H1 = H at hP hS ⊢
                  have hP : va_P D vwCl (wL o0 a0 a1 a2 a3 a4 a5 m0 m1 m2 m3 m4 m5 co c1 c2 c4 c5 k1 k2 k3 k4 k5 made_137 size_138 tooG_139 qcode_146 qfuns_147 qmade_148 qgreat_149 qup_150 qdown_151 out_140 kept_141 sizes_142 rows_143 taken_144 qsize_152 qrows_153 qwork_154 qxx_155 qpower) H := hP.sub [0, 1, 2, 3, 4, 5, 6, 7, 8, 9, 10, 11, 12] rfl
                  have hD : va_D A (wL o0 a0 a1 a2 a3 a4 a5 m0 m1 m2 m3 m4 m5 co c1 c2 c4 c5 k1 k2 k3 k4 k5 made_137 size_138 tooG_139 qcode_146 qfuns_147 qmade_148 qgreat_149 qup_150 qdown_151 out_140 kept_141 sizes_142 rows_143 taken_144 qsize_152 qrows_153 qwork_154 qxx_155 qpower) := hD.sub [0, 1, 2, 3, 4, 5, 6, 7, 8, 9, 10, 11, 12] (by decide) rfl
                  refine W.widen (k := 13 + 4 * (k + 1)) (n := 12939 + 24 * (k + 1)) (by omega) (by omega) ?_
                  refine lv_istore (lv' := [(6, .int r145), (5, .int r136), (0, .ref b), (1, .ref a0), (2, .ref m0), (3, .ref o0), (4, .int x4)]) hx hb d_L_law_475 hl (by decide) rfl (fun ls hl => ?_)
                  refine lv_aload_n hx hb d_L_law_477 rfl (lv_at hl 4 rfl) ?_
                  have hPc := hP.sub (ws' := (wM m0 m1 m2 m3 m4 m5 k1 k2 k3 k4 k5 qcode_146 qfuns_147 qmade_148 qgreat_149 qup_150 qdown_151 qsize_152 qrows_153 qwork_154 qxx_155 qpower)) [7, 8, 9, 10, 11, 12] rfl
                  have hDc := hD.sub (ws' := (wM m0 m1 m2 m3 m4 m5 k1 k2 k3 k4 k5 qcode_146 qfuns_147 qmade_148 qgreat_149 qup_150 qdown_151 qsize_152 qrows_153 qwork_154 qxx_155 qpower)) [7, 8, 9, 10, 11, 12] (by decide) rfl
                  have hKc := hK.sub (tys' := [(k1, .int), (k2, .int), (k3, .int), (k4, .int), (k5, .int)]) [5, 6, 7, 8, 9] rfl
                  have hFc := va_free (wc := (wM m0 m1 m2 m3 m4 m5 k1 k2 k3 k4 k5 qcode_146 qfuns_147 qmade_148 qgreat_149 qup_150 qdown_151 qsize_152 qrows_153 qwork_154 qxx_155 qpower)) hD hS hA [7, 8, 9, 10, 11, 12] rfl
                  refine va_calli (va_runV (As := []) (rest := []) ⟨hx, hb, hml, hown, hB⟩ (c_M_thrown l D m0 m1 m2 m3 m4 m5 k1 k2 k3 k4 k5 H.size qcode_146 qfuns_147 qmade_148 qgreat_149 qup_150 qdown_151 qsize_152 qrows_153 qwork_154 qxx_155 qpower _) (cwV 0 hB (goodV wd_349 wd_350 wd_351 wd_3 wd_352) rfl rfl rfl (by decide +kernel) ⟨Nat.le_of_ble_eq_true rfl, Nat.le_of_ble_eq_true rfl⟩) ⟨pcG_blind, va_recv hKc hPc (ci := 2) (q0 := 0) rfl rfl, pcG_pre hPc hKc hDc h⟩ rfl rfl hl.1 rfl (lv_room (Nat.le_of_ble_eq_true rfl)) d_L_law_478 ⟨by show _ ≤ 601024; omega, by show _ ≤ 7293034; omega⟩) hS (fun q _ h => hFc q h) hFc (fun r156 u t H1 locs ht hvm h hBu hz1 hk1 hS => ?_)
                  obtain ⟨hP1, hK1, hD1⟩ := hBu
                  rw [ht] at hP1
                  obtain ⟨hP, hD⟩ := va_join (wr := [(o0, .inl (co, 1, .inr (.inl out_140))), (a0, .inr (1, [.ref a1, .ref a2, .ref a3, .int made_137])), (a1, .inl (c1, 5600, .inl kept_141)), (a2, .inl (c2, 80, .inl sizes_142)), (a3, .inr (0, [.ref a4, .ref a5, .int size_138, .int tooG_139])), (a4, .inl (c4, 700, .inl rows_143)), (a5, .inl (c5, 7, .inl taken_144))]) (w1 := (wM m0 m1 m2 m3 m4 m5 k1 k2 k3 k4 k5 qcode_146 qfuns_147 qmade_148 qgreat_149 qup_150 qdown_151 qsize_152 qrows_153 qwork_154 qxx_155 qpower)) hP hD [7, 8, 9, 10, 11, 12] [0, 1, 2, 3, 4, 5, 6] rfl rfl (by decide) (by decide) hk1 hFc hP1 hD1
                  generalize H1 = H at hP hS ⊢
                  have hP : va_P D vwCl (wL o0 a0 a1 a2 a3 a4 a5 m0 m1 m2 m3 m4 m5 co c1 c2 c4 c5 k1 k2 k3 k4 k5 made_137 size_138 tooG_139 qcode_146 qfuns_147 qmade_148 qgreat_149 qup_150 qdown_151 out_140 kept_141 sizes_142 rows_143 taken_144 qsize_152 qrows_153 qwork_154 qxx_155 qpower) H := hP.sub [0, 1, 2, 3, 4, 5, 6, 7, 8, 9, 10, 11, 12] rfl
                  have hD : va_D A (wL o0 a0 a1 a2 a3 a4 a5 m0 m1 m2 m3 m4 m5 co c1 c2 c4 c5 k1 k2 k3 k4 k5 made_137 size_138 tooG_139 qcode_146 qfuns_147 qmade_148 qgreat_149 qup_150 qdown_151 out_140 kept_141 sizes_142 rows_143 taken_144 qsize_152 qrows_153 qwork_154 qxx_155 qpower) := hD.sub [0, 1, 2, 3, 4, 5, 6, 7, 8, 9, 10, 11, 12] (by decide) rfl
                  refine W.widen (k := 13 + 4 * (k + 1)) (n := 12939 + 24 * (k + 1)) (by omega) (by omega) ?_
                  refine lv_iload hx hb d_L_law_481 (lv_at hl 1 rfl) ?_
                  refine lv_icmp_eq (tgt := 488) hx hb d_L_law_483 (by decide) (fun hc157 => ?_) (fun hc157 => ?_)
                  · replace h := h.1 hc157
                    refine lv_iload hx hb d_L_law_488 (lv_at hl 1 rfl) ?_
                    refine lv_if_ne (tgt := 505) hx hb d_L_law_490 (by decide) (fun hc158 => ?_) (fun hc158 => ?_)
                    · replace h := h.1 hc158
                      refine lv_goto (tgt := 1227) hx hb d_L_law_505 (by decide) ?_
                      obtain ⟨x159, ex159⟩ : ∃ z : Int32, z = x4 + 4 := ⟨_, rfl⟩
                      refine lv_iinc (v := x159) (lv' := [(4, .int x159), (6, .int r145), (5, .int r136), (0, .ref b), (1, .ref a0), (2, .ref m0), (3, .ref o0)]) hx hb d_L_law_1227 hl (k := 6) rfl (by rw [ex159]; rfl) (by decide) rfl (fun ls hl => ?_)
                      refine lv_goto (tgt := 23) hx hb d_L_law_1230 (by decide) ?_
                      exact ihn (k + 1) x159 made_137 size_138 tooG_139 qcode_146 qfuns_147 qmade_148 qgreat_149 qup_150 qdown_151 out_140 kept_141 sizes_142 rows_143 taken_144 qsize_152 qrows_153 qwork_154 qxx_155 qpower _ _ _ (by omega) (by omega) (by rw [ex159, ex4]; exact (nI_add _ 4).trans (by rw [show 4 * (k + 1) = 4 * k + 4 by omega])) h hP hD hS (lv_sub hl [3, 4, 5, 6, 0] rfl)
                    · replace h := h.2 hc158
                      refine lv_aload_n hx hb d_L_law_493 rfl (lv_at hl 5 rfl) ?_
                      refine lv_iconst (v := 0) hx hb d_L_law_494 (by decide) ?_
                      obtain ⟨g160, h⟩ := h
                      refine va_lald hx hb hK hP 0 0 rfl rfl g160 d_L_law_495 ?_
                      refine lv_iload hx hb d_L_law_496 (lv_at hl 0 rfl) ?_
                      refine lv_i2l hx hb d_L_law_498 rfl ?_
                      refine W.lcmp hx hb d_L_law_499 ?_
                      refine lv_if_eq (tgt := 505) hx hb d_L_law_500 (by decide) (fun hc161 => ?_) (fun hc161 => ?_)
                      · replace h := h.1 hc161
                        refine lv_goto (tgt := 1227) hx hb d_L_law_505 (by decide) ?_
                        obtain ⟨x162, ex162⟩ : ∃ z : Int32, z = x4 + 4 := ⟨_, rfl⟩
                        refine lv_iinc (v := x162) (lv' := [(4, .int x162), (6, .int r145), (5, .int r136), (0, .ref b), (1, .ref a0), (2, .ref m0), (3, .ref o0)]) hx hb d_L_law_1227 hl (k := 6) rfl (by rw [ex162]; rfl) (by decide) rfl (fun ls hl => ?_)
                        refine lv_goto (tgt := 23) hx hb d_L_law_1230 (by decide) ?_
                        exact ihn (k + 1) x162 made_137 size_138 tooG_139 qcode_146 qfuns_147 qmade_148 qgreat_149 qup_150 qdown_151 out_140 kept_141 sizes_142 rows_143 taken_144 qsize_152 qrows_153 qwork_154 qxx_155 qpower _ _ _ (by omega) (by omega) (by rw [ex162, ex4]; exact (nI_add _ 4).trans (by rw [show 4 * (k + 1) = 4 * k + 4 by omega])) h hP hD hS (lv_sub hl [3, 4, 5, 6, 0] rfl)
                      · replace h := h.2 hc161
                        refine lv_iconst (v := 0) hx hb d_L_law_503 (by decide) ?_
                        exact (show False from h).elim
                  · replace h := h.2 hc157
                    refine lv_iconst (v := 0) hx hb d_L_law_486 (by decide) ?_
                    exact (show False from h).elim
                · replace h := h.2 t5
                  by_cases t6 : sw = 6
                  · replace h := h.1 t6
                    clear esw
                    subst t6
                    refine lv_tableIn (off := 469) (tgt := 508) hx hb d_L_law_39 (by decide) (by decide) (by decide +kernel) (by decide) ?_
                    refine lv_aload_n hx hb d_L_law_508 rfl (lv_at hl 1 rfl) ?_
                    refine lv_aload_n hx hb d_L_law_509 rfl (lv_at hl 0 rfl) ?_
                    refine lv_iload hx hb d_L_law_510 (lv_at hl 4 rfl) ?_
                    refine lv_iconst (v := 1) hx hb d_L_law_512 (by decide) ?_
                    refine lv_iadd hx hb d_L_law_513 ?_
                    refine va_sld hx hb hX hbl hbA hS hi1 d_L_law_514 ?_
                    rw [← es1]
                    refine lv_aload_n hx hb d_L_law_515 rfl (lv_at hl 3 rfl) ?_
                    have hPc := hP.sub (ws' := (wO o0 a0 a1 a2 a3 a4 a5 co c1 c2 c4 c5 made size tooG out kept sizes rows taken)) [0, 1, 2, 3, 4, 5, 6] rfl
                    have hDc := hD.sub (ws' := (wO o0 a0 a1 a2 a3 a4 a5 co c1 c2 c4 c5 made size tooG out kept sizes rows taken)) [0, 1, 2, 3, 4, 5, 6] (by decide) rfl
                    have hKc := hK.sub (tys' := [(co, .long), (c1, .int), (c2, .int), (c4, .int), (c5, .int)]) [0, 1, 2, 3, 4] rfl
                    have hFc := va_free (wc := (wO o0 a0 a1 a2 a3 a4 a5 co c1 c2 c4 c5 made size tooG out kept sizes rows taken)) hD hS hA [0, 1, 2, 3, 4, 5, 6] rfl
                    refine va_calli (vx_runSW (As := [.ref a0, .int s1, .ref o0]) (rest := []) ⟨hx, hb, hml, hown, hB⟩ (c_L_logarithm l D o0 a0 a1 a2 a3 a4 a5 co c1 c2 c4 c5 H.size made size tooG out kept sizes rows taken s1 _ hst) (vx_cwSW 3 hB (goodSW wd_229 wd_230 wd_0 wd_231) rfl rfl rfl (by decide +kernel) ⟨Nat.le_of_ble_eq_true rfl, Nat.le_of_ble_eq_true rfl⟩) ⟨pcH_blind, pcH_pre hPc hKc hDc hS hXH hFc h⟩ rfl rfl hl.1 rfl (lv_room (Nat.le_of_ble_eq_true rfl)) d_L_law_516 ⟨by show _ ≤ 601024; omega, by show _ ≤ 7293034; omega⟩) hS (fun q _ h => hFc q h) hFc (fun r163 u t H1 locs ht hvm h hBu hz1 hk1 hS => ?_)
                    obtain ⟨made_164, size_165, tooG_166, out_167, kept_168, sizes_169, rows_170, taken_171⟩ := u
                    obtain ⟨hP1, hK1, hD1⟩ := hBu
                    rw [ht] at hP1
                    obtain ⟨hP, hD⟩ := va_join (wr := [(m0, .inr (2, [.int qcode, .int qfuns, .ref m1, .ref m2, .int qmade, .ref m3, .int qgreat, .ref m4, .ref m5, .long qup, .long qdown])), (m1, .inl (k1, 80, .inl qsize)), (m2, .inl (k2, 5600, .inl qrows)), (m3, .inl (k3, 840, .inl qwork)), (m4, .inl (k4, 7, .inl qxx)), (m5, .inl (k5, 5, .inl qpower))]) (w1 := (wO o0 a0 a1 a2 a3 a4 a5 co c1 c2 c4 c5 made_164 size_165 tooG_166 out_167 kept_168 sizes_169 rows_170 taken_171)) hP hD [0, 1, 2, 3, 4, 5, 6] [7, 8, 9, 10, 11, 12] rfl rfl (by decide) (by decide) hk1 hFc hP1 hD1
                    generalize H1 = H at hP hS ⊢
                    have hP : va_P D vwCl (wL o0 a0 a1 a2 a3 a4 a5 m0 m1 m2 m3 m4 m5 co c1 c2 c4 c5 k1 k2 k3 k4 k5 made_164 size_165 tooG_166 qcode qfuns qmade qgreat qup qdown out_167 kept_168 sizes_169 rows_170 taken_171 qsize qrows qwork qxx qpower) H := hP.sub [6, 7, 8, 9, 10, 11, 12, 0, 1, 2, 3, 4, 5] rfl
                    have hD : va_D A (wL o0 a0 a1 a2 a3 a4 a5 m0 m1 m2 m3 m4 m5 co c1 c2 c4 c5 k1 k2 k3 k4 k5 made_164 size_165 tooG_166 qcode qfuns qmade qgreat qup qdown out_167 kept_168 sizes_169 rows_170 taken_171 qsize qrows qwork qxx qpower) := hD.sub [6, 7, 8, 9, 10, 11, 12, 0, 1, 2, 3, 4, 5] (by decide) rfl
                    refine W.widen (k := 13 + 4 * (k + 1)) (n := 12939 + 24 * (k + 1)) (by omega) (by omega) ?_
                    refine lv_istore (lv' := [(5, .int r163), (0, .ref b), (1, .ref a0), (2, .ref m0), (3, .ref o0), (4, .int x4)]) hx hb d_L_law_519 hl (by decide) rfl (fun ls hl => ?_)
                    refine lv_aload_n hx hb d_L_law_521 rfl (lv_at hl 3 rfl) ?_
                    refine lv_aload_n hx hb d_L_law_522 rfl (lv_at hl 1 rfl) ?_
                    refine lv_iload hx hb d_L_law_523 (lv_at hl 5 rfl) ?_
                    refine lv_iconst (v := 1) hx hb d_L_law_525 (by decide) ?_
                    refine lv_iadd hx hb d_L_law_526 ?_
                    refine va_sld hx hb hX hbl hbA hS hi1 d_L_law_527 ?_
                    rw [← es1]
                    have hPc := hP.sub (ws' := (wM m0 m1 m2 m3 m4 m5 k1 k2 k3 k4 k5 qcode qfuns qmade qgreat qup qdown qsize qrows qwork qxx qpower)) [7, 8, 9, 10, 11, 12] rfl
                    have hDc := hD.sub (ws' := (wM m0 m1 m2 m3 m4 m5 k1 k2 k3 k4 k5 qcode qfuns qmade qgreat qup qdown qsize qrows qwork qxx qpower)) [7, 8, 9, 10, 11, 12] (by decide) rfl
                    have hKc := hK.sub (tys' := [(k1, .int), (k2, .int), (k3, .int), (k4, .int), (k5, .int)]) [5, 6, 7, 8, 9] rfl
                    have hFc := va_free (wc := (wM m0 m1 m2 m3 m4 m5 k1 k2 k3 k4 k5 qcode qfuns qmade qgreat qup qdown qsize qrows qwork qxx qpower)) hD hS hA [7, 8, 9, 10, 11, 12] rfl
                    refine va_calli (va_runV (As := [.int s1]) (rest := []) ⟨hx, hb, hml, hown, hB⟩ (c_M_logarithm l D m0 m1 m2 m3 m4 m5 k1 k2 k3 k4 k5 H.size qcode qfuns qmade qgreat qup qdown qsize qrows qwork qxx qpower s1 _) (cwV 1 hB (goodV wd_430 wd_431 wd_432 wd_3 wd_433) rfl rfl rfl (by decide +kernel) ⟨Nat.le_of_ble_eq_true rfl, Nat.le_of_ble_eq_true rfl⟩) ⟨pcG_blind, va_recv hKc hPc (ci := 2) (q0 := 0) rfl rfl, pcG_pre hPc hKc hDc h⟩ rfl rfl hl.1 rfl (lv_room (Nat.le_of_ble_eq_true rfl)) d_L_law_528 ⟨by show _ ≤ 601024; omega, by show _ ≤ 7293034; omega⟩) hS (fun q _ h => hFc q h) hFc (fun r172 u t H1 locs ht hvm h hBu hz1 hk1 hS => ?_)
                    obtain ⟨qcode_173, qfuns_174, qmade_175, qgreat_176, qup_177, qdown_178, qsize_179, qrows_180, qwork_181, qxx_182⟩ := u
                    obtain ⟨hP1, hK1, hD1⟩ := hBu
                    rw [ht] at hP1
                    obtain ⟨hP, hD⟩ := va_join (wr := [(o0, .inl (co, 1, .inr (.inl out_167))), (a0, .inr (1, [.ref a1, .ref a2, .ref a3, .int made_164])), (a1, .inl (c1, 5600, .inl kept_168)), (a2, .inl (c2, 80, .inl sizes_169)), (a3, .inr (0, [.ref a4, .ref a5, .int size_165, .int tooG_166])), (a4, .inl (c4, 700, .inl rows_170)), (a5, .inl (c5, 7, .inl taken_171))]) (w1 := (wM m0 m1 m2 m3 m4 m5 k1 k2 k3 k4 k5 qcode_173 qfuns_174 qmade_175 qgreat_176 qup_177 qdown_178 qsize_179 qrows_180 qwork_181 qxx_182 qpower)) hP hD [7, 8, 9, 10, 11, 12] [0, 1, 2, 3, 4, 5, 6] rfl rfl (by decide) (by decide) hk1 hFc hP1 hD1
                    generalize H1 = H at hP hS ⊢
                    have hP : va_P D vwCl (wL o0 a0 a1 a2 a3 a4 a5 m0 m1 m2 m3 m4 m5 co c1 c2 c4 c5 k1 k2 k3 k4 k5 made_164 size_165 tooG_166 qcode_173 qfuns_174 qmade_175 qgreat_176 qup_177 qdown_178 out_167 kept_168 sizes_169 rows_170 taken_171 qsize_179 qrows_180 qwork_181 qxx_182 qpower) H := hP.sub [0, 1, 2, 3, 4, 5, 6, 7, 8, 9, 10, 11, 12] rfl
                    have hD : va_D A (wL o0 a0 a1 a2 a3 a4 a5 m0 m1 m2 m3 m4 m5 co c1 c2 c4 c5 k1 k2 k3 k4 k5 made_164 size_165 tooG_166 qcode_173 qfuns_174 qmade_175 qgreat_176 qup_177 qdown_178 out_167 kept_168 sizes_169 rows_170 taken_171 qsize_179 qrows_180 qwork_181 qxx_182 qpower) := hD.sub [0, 1, 2, 3, 4, 5, 6, 7, 8, 9, 10, 11, 12] (by decide) rfl
                    refine W.widen (k := 13 + 4 * (k + 1)) (n := 12939 + 24 * (k + 1)) (by omega) (by omega) ?_
                    refine lv_istore (lv' := [(6, .int r172), (5, .int r163), (0, .ref b), (1, .ref a0), (2, .ref m0), (3, .ref o0), (4, .int x4)]) hx hb d_L_law_531 hl (by decide) rfl (fun ls hl => ?_)
                    refine lv_aload_n hx hb d_L_law_533 rfl (lv_at hl 4 rfl) ?_
                    have hPc := hP.sub (ws' := (wM m0 m1 m2 m3 m4 m5 k1 k2 k3 k4 k5 qcode_173 qfuns_174 qmade_175 qgreat_176 qup_177 qdown_178 qsize_179 qrows_180 qwork_181 qxx_182 qpower)) [7, 8, 9, 10, 11, 12] rfl
                    have hDc := hD.sub (ws' := (wM m0 m1 m2 m3 m4 m5 k1 k2 k3 k4 k5 qcode_173 qfuns_174 qmade_175 qgreat_176 qup_177 qdown_178 qsize_179 qrows_180 qwork_181 qxx_182 qpower)) [7, 8, 9, 10, 11, 12] (by decide) rfl
                    have hKc := hK.sub (tys' := [(k1, .int), (k2, .int), (k3, .int), (k4, .int), (k5, .int)]) [5, 6, 7, 8, 9] rfl
                    have hFc := va_free (wc := (wM m0 m1 m2 m3 m4 m5 k1 k2 k3 k4 k5 qcode_173 qfuns_174 qmade_175 qgreat_176 qup_177 qdown_178 qsize_179 qrows_180 qwork_181 qxx_182 qpower)) hD hS hA [7, 8, 9, 10, 11, 12] rfl
                    refine va_calli (va_runV (As := []) (rest := []) ⟨hx, hb, hml, hown, hB⟩ (c_M_thrown l D m0 m1 m2 m3 m4 m5 k1 k2 k3 k4 k5 H.size qcode_173 qfuns_174 qmade_175 qgreat_176 qup_177 qdown_178 qsize_179 qrows_180 qwork_181 qxx_182 qpower _) (cwV 0 hB (goodV wd_349 wd_350 wd_351 wd_3 wd_352) rfl rfl rfl (by decide +kernel) ⟨Nat.le_of_ble_eq_true rfl, Nat.le_of_ble_eq_true rfl⟩) ⟨pcG_blind, va_recv hKc hPc (ci := 2) (q0 := 0) rfl rfl, pcG_pre hPc hKc hDc h⟩ rfl rfl hl.1 rfl (lv_room (Nat.le_of_ble_eq_true rfl)) d_L_law_534 ⟨by show _ ≤ 601024; omega, by show _ ≤ 7293034; omega⟩) hS (fun q _ h => hFc q h) hFc (fun r183 u t H1 locs ht hvm h hBu hz1 hk1 hS => ?_)
                    obtain ⟨hP1, hK1, hD1⟩ := hBu
                    rw [ht] at hP1
                    obtain ⟨hP, hD⟩ := va_join (wr := [(o0, .inl (co, 1, .inr (.inl out_167))), (a0, .inr (1, [.ref a1, .ref a2, .ref a3, .int made_164])), (a1, .inl (c1, 5600, .inl kept_168)), (a2, .inl (c2, 80, .inl sizes_169)), (a3, .inr (0, [.ref a4, .ref a5, .int size_165, .int tooG_166])), (a4, .inl (c4, 700, .inl rows_170)), (a5, .inl (c5, 7, .inl taken_171))]) (w1 := (wM m0 m1 m2 m3 m4 m5 k1 k2 k3 k4 k5 qcode_173 qfuns_174 qmade_175 qgreat_176 qup_177 qdown_178 qsize_179 qrows_180 qwork_181 qxx_182 qpower)) hP hD [7, 8, 9, 10, 11, 12] [0, 1, 2, 3, 4, 5, 6] rfl rfl (by decide) (by decide) hk1 hFc hP1 hD1
                    generalize H1 = H at hP hS ⊢
                    have hP : va_P D vwCl (wL o0 a0 a1 a2 a3 a4 a5 m0 m1 m2 m3 m4 m5 co c1 c2 c4 c5 k1 k2 k3 k4 k5 made_164 size_165 tooG_166 qcode_173 qfuns_174 qmade_175 qgreat_176 qup_177 qdown_178 out_167 kept_168 sizes_169 rows_170 taken_171 qsize_179 qrows_180 qwork_181 qxx_182 qpower) H := hP.sub [0, 1, 2, 3, 4, 5, 6, 7, 8, 9, 10, 11, 12] rfl
                    have hD : va_D A (wL o0 a0 a1 a2 a3 a4 a5 m0 m1 m2 m3 m4 m5 co c1 c2 c4 c5 k1 k2 k3 k4 k5 made_164 size_165 tooG_166 qcode_173 qfuns_174 qmade_175 qgreat_176 qup_177 qdown_178 out_167 kept_168 sizes_169 rows_170 taken_171 qsize_179 qrows_180 qwork_181 qxx_182 qpower) := hD.sub [0, 1, 2, 3, 4, 5, 6, 7, 8, 9, 10, 11, 12] (by decide) rfl
                    refine W.widen (k := 13 + 4 * (k + 1)) (n := 12939 + 24 * (k + 1)) (by omega) (by omega) ?_
                    refine lv_iload hx hb d_L_law_537 (lv_at hl 1 rfl) ?_
                    refine lv_icmp_eq (tgt := 544) hx hb d_L_law_539 (by decide) (fun hc184 => ?_) (fun hc184 => ?_)
                    · replace h := h.1 hc184
                      refine lv_iload hx hb d_L_law_544 (lv_at hl 1 rfl) ?_
                      refine lv_if_ne (tgt := 561) hx hb d_L_law_546 (by decide) (fun hc185 => ?_) (fun hc185 => ?_)
                      · replace h := h.1 hc185
                        refine lv_goto (tgt := 1227) hx hb d_L_law_561 (by decide) ?_
                        obtain ⟨x186, ex186⟩ : ∃ z : Int32, z = x4 + 4 := ⟨_, rfl⟩
                        refine lv_iinc (v := x186) (lv' := [(4, .int x186), (6, .int r172), (5, .int r163), (0, .ref b), (1, .ref a0), (2, .ref m0), (3, .ref o0)]) hx hb d_L_law_1227 hl (k := 6) rfl (by rw [ex186]; rfl) (by decide) rfl (fun ls hl => ?_)
                        refine lv_goto (tgt := 23) hx hb d_L_law_1230 (by decide) ?_
                        exact ihn (k + 1) x186 made_164 size_165 tooG_166 qcode_173 qfuns_174 qmade_175 qgreat_176 qup_177 qdown_178 out_167 kept_168 sizes_169 rows_170 taken_171 qsize_179 qrows_180 qwork_181 qxx_182 qpower _ _ _ (by omega) (by omega) (by rw [ex186, ex4]; exact (nI_add _ 4).trans (by rw [show 4 * (k + 1) = 4 * k + 4 by omega])) h hP hD hS (lv_sub hl [3, 4, 5, 6, 0] rfl)
                      · replace h := h.2 hc185
                        refine lv_aload_n hx hb d_L_law_549 rfl (lv_at hl 5 rfl) ?_
                        refine lv_iconst (v := 0) hx hb d_L_law_550 (by decide) ?_
                        obtain ⟨g187, h⟩ := h
                        refine va_lald hx hb hK hP 0 0 rfl rfl g187 d_L_law_551 ?_
                        refine lv_iload hx hb d_L_law_552 (lv_at hl 0 rfl) ?_
                        refine lv_i2l hx hb d_L_law_554 rfl ?_
                        refine W.lcmp hx hb d_L_law_555 ?_
                        refine lv_if_eq (tgt := 561) hx hb d_L_law_556 (by decide) (fun hc188 => ?_) (fun hc188 => ?_)
                        · replace h := h.1 hc188
                          refine lv_goto (tgt := 1227) hx hb d_L_law_561 (by decide) ?_
                          obtain ⟨x189, ex189⟩ : ∃ z : Int32, z = x4 + 4 := ⟨_, rfl⟩
                          refine lv_iinc (v := x189) (lv' := [(4, .int x189), (6, .int r172), (5, .int r163), (0, .ref b), (1, .ref a0), (2, .ref m0), (3, .ref o0)]) hx hb d_L_law_1227 hl (k := 6) rfl (by rw [ex189]; rfl) (by decide) rfl (fun ls hl => ?_)
                          refine lv_goto (tgt := 23) hx hb d_L_law_1230 (by decide) ?_
                          exact ihn (k + 1) x189 made_164 size_165 tooG_166 qcode_173 qfuns_174 qmade_175 qgreat_176 qup_177 qdown_178 out_167 kept_168 sizes_169 rows_170 taken_171 qsize_179 qrows_180 qwork_181 qxx_182 qpower _ _ _ (by omega) (by omega) (by rw [ex189, ex4]; exact (nI_add _ 4).trans (by rw [show 4 * (k + 1) = 4 * k + 4 by omega])) h hP hD hS (lv_sub hl [3, 4, 5, 6, 0] rfl)
                        · replace h := h.2 hc188
                          refine lv_iconst (v := 0) hx hb d_L_law_559 (by decide) ?_
                          exact (show False from h).elim
                    · replace h := h.2 hc184
                      refine lv_iconst (v := 0) hx hb d_L_law_542 (by decide) ?_
                      exact (show False from h).elim
                  · replace h := h.2 t6
                    by_cases t7 : sw = 7
                    · replace h := h.1 t7
                      clear esw
                      subst t7
                      refine lv_tableIn (off := 525) (tgt := 564) hx hb d_L_law_39 (by decide) (by decide) (by decide +kernel) (by decide) ?_
                      refine lv_aload_n hx hb d_L_law_564 rfl (lv_at hl 1 rfl) ?_
                      refine lv_aload_n hx hb d_L_law_565 rfl (lv_at hl 0 rfl) ?_
                      refine lv_iload hx hb d_L_law_566 (lv_at hl 4 rfl) ?_
                      refine lv_iconst (v := 1) hx hb d_L_law_568 (by decide) ?_
                      refine lv_iadd hx hb d_L_law_569 ?_
                      refine va_sld hx hb hX hbl hbA hS hi1 d_L_law_570 ?_
                      rw [← es1]
                      refine lv_aload_n hx hb d_L_law_571 rfl (lv_at hl 3 rfl) ?_
                      have hPc := hP.sub (ws' := (wO o0 a0 a1 a2 a3 a4 a5 co c1 c2 c4 c5 made size tooG out kept sizes rows taken)) [0, 1, 2, 3, 4, 5, 6] rfl
                      have hDc := hD.sub (ws' := (wO o0 a0 a1 a2 a3 a4 a5 co c1 c2 c4 c5 made size tooG out kept sizes rows taken)) [0, 1, 2, 3, 4, 5, 6] (by decide) rfl
                      have hKc := hK.sub (tys' := [(co, .long), (c1, .int), (c2, .int), (c4, .int), (c5, .int)]) [0, 1, 2, 3, 4] rfl
                      have hFc := va_free (wc := (wO o0 a0 a1 a2 a3 a4 a5 co c1 c2 c4 c5 made size tooG out kept sizes rows taken)) hD hS hA [0, 1, 2, 3, 4, 5, 6] rfl
                      refine va_calli (vx_runSW (As := [.ref a0, .int s1, .ref o0]) (rest := []) ⟨hx, hb, hml, hown, hB⟩ (c_L_exponential l D o0 a0 a1 a2 a3 a4 a5 co c1 c2 c4 c5 H.size made size tooG out kept sizes rows taken s1 _ hst) (vx_cwSW 3 hB (goodSW wd_239 wd_240 wd_0 wd_241) rfl rfl rfl (by decide +kernel) ⟨Nat.le_of_ble_eq_true rfl, Nat.le_of_ble_eq_true rfl⟩) ⟨pcH_blind, pcH_pre hPc hKc hDc hS hXH hFc h⟩ rfl rfl hl.1 rfl (lv_room (Nat.le_of_ble_eq_true rfl)) d_L_law_572 ⟨by show _ ≤ 601024; omega, by show _ ≤ 7293034; omega⟩) hS (fun q _ h => hFc q h) hFc (fun r190 u t H1 locs ht hvm h hBu hz1 hk1 hS => ?_)
                      obtain ⟨made_191, size_192, tooG_193, out_194, kept_195, sizes_196, rows_197, taken_198⟩ := u
                      obtain ⟨hP1, hK1, hD1⟩ := hBu
                      rw [ht] at hP1
                      obtain ⟨hP, hD⟩ := va_join (wr := [(m0, .inr (2, [.int qcode, .int qfuns, .ref m1, .ref m2, .int qmade, .ref m3, .int qgreat, .ref m4, .ref m5, .long qup, .long qdown])), (m1, .inl (k1, 80, .inl qsize)), (m2, .inl (k2, 5600, .inl qrows)), (m3, .inl (k3, 840, .inl qwork)), (m4, .inl (k4, 7, .inl qxx)), (m5, .inl (k5, 5, .inl qpower))]) (w1 := (wO o0 a0 a1 a2 a3 a4 a5 co c1 c2 c4 c5 made_191 size_192 tooG_193 out_194 kept_195 sizes_196 rows_197 taken_198)) hP hD [0, 1, 2, 3, 4, 5, 6] [7, 8, 9, 10, 11, 12] rfl rfl (by decide) (by decide) hk1 hFc hP1 hD1
                      generalize H1 = H at hP hS ⊢
                      have hP : va_P D vwCl (wL o0 a0 a1 a2 a3 a4 a5 m0 m1 m2 m3 m4 m5 co c1 c2 c4 c5 k1 k2 k3 k4 k5 made_191 size_192 tooG_193 qcode qfuns qmade qgreat qup qdown out_194 kept_195 sizes_196 rows_197 taken_198 qsize qrows qwork qxx qpower) H := hP.sub [6, 7, 8, 9, 10, 11, 12, 0, 1, 2, 3, 4, 5] rfl
                      have hD : va_D A (wL o0 a0 a1 a2 a3 a4 a5 m0 m1 m2 m3 m4 m5 co c1 c2 c4 c5 k1 k2 k3 k4 k5 made_191 size_192 tooG_193 qcode qfuns qmade qgreat qup qdown out_194 kept_195 sizes_196 rows_197 taken_198 qsize qrows qwork qxx qpower) := hD.sub [6, 7, 8, 9, 10, 11, 12, 0, 1, 2, 3, 4, 5] (by decide) rfl
                      refine W.widen (k := 13 + 4 * (k + 1)) (n := 12939 + 24 * (k + 1)) (by omega) (by omega) ?_
                      refine lv_istore (lv' := [(5, .int r190), (0, .ref b), (1, .ref a0), (2, .ref m0), (3, .ref o0), (4, .int x4)]) hx hb d_L_law_575 hl (by decide) rfl (fun ls hl => ?_)
                      refine lv_aload_n hx hb d_L_law_577 rfl (lv_at hl 3 rfl) ?_
                      refine lv_aload_n hx hb d_L_law_578 rfl (lv_at hl 1 rfl) ?_
                      refine lv_iload hx hb d_L_law_579 (lv_at hl 5 rfl) ?_
                      refine lv_iconst (v := 1) hx hb d_L_law_581 (by decide) ?_
                      refine lv_iadd hx hb d_L_law_582 ?_
                      refine va_sld hx hb hX hbl hbA hS hi1 d_L_law_583 ?_
                      rw [← es1]
                      have hPc := hP.sub (ws' := (wM m0 m1 m2 m3 m4 m5 k1 k2 k3 k4 k5 qcode qfuns qmade qgreat qup qdown qsize qrows qwork qxx qpower)) [7, 8, 9, 10, 11, 12] rfl
                      have hDc := hD.sub (ws' := (wM m0 m1 m2 m3 m4 m5 k1 k2 k3 k4 k5 qcode qfuns qmade qgreat qup qdown qsize qrows qwork qxx qpower)) [7, 8, 9, 10, 11, 12] (by decide) rfl
                      have hKc := hK.sub (tys' := [(k1, .int), (k2, .int), (k3, .int), (k4, .int), (k5, .int)]) [5, 6, 7, 8, 9] rfl
                      have hFc := va_free (wc := (wM m0 m1 m2 m3 m4 m5 k1 k2 k3 k4 k5 qcode qfuns qmade qgreat qup qdown qsize qrows qwork qxx qpower)) hD hS hA [7, 8, 9, 10, 11, 12] rfl
                      refine va_calli (va_runV (As := [.int s1]) (rest := []) ⟨hx, hb, hml, hown, hB⟩ (c_M_exponential l D m0 m1 m2 m3 m4 m5 k1 k2 k3 k4 k5 H.size qcode qfuns qmade qgreat qup qdown qsize qrows qwork qxx qpower s1 _) (cwV 1 hB (goodV wd_434 wd_435 wd_436 wd_3 wd_437) rfl rfl rfl (by decide +kernel) ⟨Nat.le_of_ble_eq_true rfl, Nat.le_of_ble_eq_true rfl⟩) ⟨pcG_blind, va_recv hKc hPc (ci := 2) (q0 := 0) rfl rfl, pcG_pre hPc hKc hDc h⟩ rfl rfl hl.1 rfl (lv_room (Nat.le_of_ble_eq_true rfl)) d_L_law_584 ⟨by show _ ≤ 601024; omega, by show _ ≤ 7293034; omega⟩) hS (fun q _ h => hFc q h) hFc (fun r199 u t H1 locs ht hvm h hBu hz1 hk1 hS => ?_)
                      obtain ⟨qcode_200, qfuns_201, qmade_202, qgreat_203, qup_204, qdown_205, qsize_206, qrows_207, qwork_208, qxx_209, qpower_210⟩ := u
                      obtain ⟨hP1, hK1, hD1⟩ := hBu
                      rw [ht] at hP1
                      obtain ⟨hP, hD⟩ := va_join (wr := [(o0, .inl (co, 1, .inr (.inl out_194))), (a0, .inr (1, [.ref a1, .ref a2, .ref a3, .int made_191])), (a1, .inl (c1, 5600, .inl kept_195)), (a2, .inl (c2, 80, .inl sizes_196)), (a3, .inr (0, [.ref a4, .ref a5, .int size_192, .int tooG_193])), (a4, .inl (c4, 700, .inl rows_197)), (a5, .inl (c5, 7, .inl taken_198))]) (w1 := (wM m0 m1 m2 m3 m4 m5 k1 k2 k3 k4 k5 qcode_200 qfuns_201 qmade_202 qgreat_203 qup_204 qdown_205 qsize_206 qrows_207 qwork_208 qxx_209 qpower_210)) hP hD [7, 8, 9, 10, 11, 12] [0, 1, 2, 3, 4, 5, 6] rfl rfl (by decide) (by decide) hk1 hFc hP1 hD1
                      generalize H1 = H at hP hS ⊢
                      have hP : va_P D vwCl (wL o0 a0 a1 a2 a3 a4 a5 m0 m1 m2 m3 m4 m5 co c1 c2 c4 c5 k1 k2 k3 k4 k5 made_191 size_192 tooG_193 qcode_200 qfuns_201 qmade_202 qgreat_203 qup_204 qdown_205 out_194 kept_195 sizes_196 rows_197 taken_198 qsize_206 qrows_207 qwork_208 qxx_209 qpower_210) H := hP.sub [0, 1, 2, 3, 4, 5, 6, 7, 8, 9, 10, 11, 12] rfl
                      have hD : va_D A (wL o0 a0 a1 a2 a3 a4 a5 m0 m1 m2 m3 m4 m5 co c1 c2 c4 c5 k1 k2 k3 k4 k5 made_191 size_192 tooG_193 qcode_200 qfuns_201 qmade_202 qgreat_203 qup_204 qdown_205 out_194 kept_195 sizes_196 rows_197 taken_198 qsize_206 qrows_207 qwork_208 qxx_209 qpower_210) := hD.sub [0, 1, 2, 3, 4, 5, 6, 7, 8, 9, 10, 11, 12] (by decide) rfl
                      refine W.widen (k := 13 + 4 * (k + 1)) (n := 12939 + 24 * (k + 1)) (by omega) (by omega) ?_
                      refine lv_istore (lv' := [(6, .int r199), (5, .int r190), (0, .ref b), (1, .ref a0), (2, .ref m0), (3, .ref o0), (4, .int x4)]) hx hb d_L_law_587 hl (by decide) rfl (fun ls hl => ?_)
                      refine lv_aload_n hx hb d_L_law_589 rfl (lv_at hl 4 rfl) ?_
                      have hPc := hP.sub (ws' := (wM m0 m1 m2 m3 m4 m5 k1 k2 k3 k4 k5 qcode_200 qfuns_201 qmade_202 qgreat_203 qup_204 qdown_205 qsize_206 qrows_207 qwork_208 qxx_209 qpower_210)) [7, 8, 9, 10, 11, 12] rfl
                      have hDc := hD.sub (ws' := (wM m0 m1 m2 m3 m4 m5 k1 k2 k3 k4 k5 qcode_200 qfuns_201 qmade_202 qgreat_203 qup_204 qdown_205 qsize_206 qrows_207 qwork_208 qxx_209 qpower_210)) [7, 8, 9, 10, 11, 12] (by decide) rfl
                      have hKc := hK.sub (tys' := [(k1, .int), (k2, .int), (k3, .int), (k4, .int), (k5, .int)]) [5, 6, 7, 8, 9] rfl
                      have hFc := va_free (wc := (wM m0 m1 m2 m3 m4 m5 k1 k2 k3 k4 k5 qcode_200 qfuns_201 qmade_202 qgreat_203 qup_204 qdown_205 qsize_206 qrows_207 qwork_208 qxx_209 qpower_210)) hD hS hA [7, 8, 9, 10, 11, 12] rfl
                      refine va_calli (va_runV (As := []) (rest := []) ⟨hx, hb, hml, hown, hB⟩ (c_M_thrown l D m0 m1 m2 m3 m4 m5 k1 k2 k3 k4 k5 H.size qcode_200 qfuns_201 qmade_202 qgreat_203 qup_204 qdown_205 qsize_206 qrows_207 qwork_208 qxx_209 qpower_210 _) (cwV 0 hB (goodV wd_349 wd_350 wd_351 wd_3 wd_352) rfl rfl rfl (by decide +kernel) ⟨Nat.le_of_ble_eq_true rfl, Nat.le_of_ble_eq_true rfl⟩) ⟨pcG_blind, va_recv hKc hPc (ci := 2) (q0 := 0) rfl rfl, pcG_pre hPc hKc hDc h⟩ rfl rfl hl.1 rfl (lv_room (Nat.le_of_ble_eq_true rfl)) d_L_law_590 ⟨by show _ ≤ 601024; omega, by show _ ≤ 7293034; omega⟩) hS (fun q _ h => hFc q h) hFc (fun r211 u t H1 locs ht hvm h hBu hz1 hk1 hS => ?_)
                      obtain ⟨hP1, hK1, hD1⟩ := hBu
                      rw [ht] at hP1
                      obtain ⟨hP, hD⟩ := va_join (wr := [(o0, .inl (co, 1, .inr (.inl out_194))), (a0, .inr (1, [.ref a1, .ref a2, .ref a3, .int made_191])), (a1, .inl (c1, 5600, .inl kept_195)), (a2, .inl (c2, 80, .inl sizes_196)), (a3, .inr (0, [.ref a4, .ref a5, .int size_192, .int tooG_193])), (a4, .inl (c4, 700, .inl rows_197)), (a5, .inl (c5, 7, .inl taken_198))]) (w1 := (wM m0 m1 m2 m3 m4 m5 k1 k2 k3 k4 k5 qcode_200 qfuns_201 qmade_202 qgreat_203 qup_204 qdown_205 qsize_206 qrows_207 qwork_208 qxx_209 qpower_210)) hP hD [7, 8, 9, 10, 11, 12] [0, 1, 2, 3, 4, 5, 6] rfl rfl (by decide) (by decide) hk1 hFc hP1 hD1
                      generalize H1 = H at hP hS ⊢
                      have hP : va_P D vwCl (wL o0 a0 a1 a2 a3 a4 a5 m0 m1 m2 m3 m4 m5 co c1 c2 c4 c5 k1 k2 k3 k4 k5 made_191 size_192 tooG_193 qcode_200 qfuns_201 qmade_202 qgreat_203 qup_204 qdown_205 out_194 kept_195 sizes_196 rows_197 taken_198 qsize_206 qrows_207 qwork_208 qxx_209 qpower_210) H := hP.sub [0, 1, 2, 3, 4, 5, 6, 7, 8, 9, 10, 11, 12] rfl
                      have hD : va_D A (wL o0 a0 a1 a2 a3 a4 a5 m0 m1 m2 m3 m4 m5 co c1 c2 c4 c5 k1 k2 k3 k4 k5 made_191 size_192 tooG_193 qcode_200 qfuns_201 qmade_202 qgreat_203 qup_204 qdown_205 out_194 kept_195 sizes_196 rows_197 taken_198 qsize_206 qrows_207 qwork_208 qxx_209 qpower_210) := hD.sub [0, 1, 2, 3, 4, 5, 6, 7, 8, 9, 10, 11, 12] (by decide) rfl
                      refine W.widen (k := 13 + 4 * (k + 1)) (n := 12939 + 24 * (k + 1)) (by omega) (by omega) ?_
                      refine lv_iload hx hb d_L_law_593 (lv_at hl 1 rfl) ?_
                      refine lv_icmp_eq (tgt := 600) hx hb d_L_law_595 (by decide) (fun hc212 => ?_) (fun hc212 => ?_)
                      · replace h := h.1 hc212
                        refine lv_iload hx hb d_L_law_600 (lv_at hl 1 rfl) ?_
                        refine lv_if_ne (tgt := 617) hx hb d_L_law_602 (by decide) (fun hc213 => ?_) (fun hc213 => ?_)
                        · replace h := h.1 hc213
                          refine lv_goto (tgt := 1227) hx hb d_L_law_617 (by decide) ?_
                          obtain ⟨x214, ex214⟩ : ∃ z : Int32, z = x4 + 4 := ⟨_, rfl⟩
                          refine lv_iinc (v := x214) (lv' := [(4, .int x214), (6, .int r199), (5, .int r190), (0, .ref b), (1, .ref a0), (2, .ref m0), (3, .ref o0)]) hx hb d_L_law_1227 hl (k := 6) rfl (by rw [ex214]; rfl) (by decide) rfl (fun ls hl => ?_)
                          refine lv_goto (tgt := 23) hx hb d_L_law_1230 (by decide) ?_
                          exact ihn (k + 1) x214 made_191 size_192 tooG_193 qcode_200 qfuns_201 qmade_202 qgreat_203 qup_204 qdown_205 out_194 kept_195 sizes_196 rows_197 taken_198 qsize_206 qrows_207 qwork_208 qxx_209 qpower_210 _ _ _ (by omega) (by omega) (by rw [ex214, ex4]; exact (nI_add _ 4).trans (by rw [show 4 * (k + 1) = 4 * k + 4 by omega])) h hP hD hS (lv_sub hl [3, 4, 5, 6, 0] rfl)
                        · replace h := h.2 hc213
                          refine lv_aload_n hx hb d_L_law_605 rfl (lv_at hl 5 rfl) ?_
                          refine lv_iconst (v := 0) hx hb d_L_law_606 (by decide) ?_
                          obtain ⟨g215, h⟩ := h
                          refine va_lald hx hb hK hP 0 0 rfl rfl g215 d_L_law_607 ?_
                          refine lv_iload hx hb d_L_law_608 (lv_at hl 0 rfl) ?_
                          refine lv_i2l hx hb d_L_law_610 rfl ?_
                          refine W.lcmp hx hb d_L_law_611 ?_
                          refine lv_if_eq (tgt := 617) hx hb d_L_law_612 (by decide) (fun hc216 => ?_) (fun hc216 => ?_)
                          · replace h := h.1 hc216
                            refine lv_goto (tgt := 1227) hx hb d_L_law_617 (by decide) ?_
                            obtain ⟨x217, ex217⟩ : ∃ z : Int32, z = x4 + 4 := ⟨_, rfl⟩
                            refine lv_iinc (v := x217) (lv' := [(4, .int x217), (6, .int r199), (5, .int r190), (0, .ref b), (1, .ref a0), (2, .ref m0), (3, .ref o0)]) hx hb d_L_law_1227 hl (k := 6) rfl (by rw [ex217]; rfl) (by decide) rfl (fun ls hl => ?_)
                            refine lv_goto (tgt := 23) hx hb d_L_law_1230 (by decide) ?_
                            exact ihn (k + 1) x217 made_191 size_192 tooG_193 qcode_200 qfuns_201 qmade_202 qgreat_203 qup_204 qdown_205 out_194 kept_195 sizes_196 rows_197 taken_198 qsize_206 qrows_207 qwork_208 qxx_209 qpower_210 _ _ _ (by omega) (by omega) (by rw [ex217, ex4]; exact (nI_add _ 4).trans (by rw [show 4 * (k + 1) = 4 * k + 4 by omega])) h hP hD hS (lv_sub hl [3, 4, 5, 6, 0] rfl)
                          · replace h := h.2 hc216
                            refine lv_iconst (v := 0) hx hb d_L_law_615 (by decide) ?_
                            exact (show False from h).elim
                      · replace h := h.2 hc212
                        refine lv_iconst (v := 0) hx hb d_L_law_598 (by decide) ?_
                        exact (show False from h).elim
                    · replace h := h.2 t7
                      by_cases t8 : sw = 8
                      · replace h := h.1 t8
                        clear esw
                        subst t8
                        refine lv_tableIn (off := 581) (tgt := 620) hx hb d_L_law_39 (by decide) (by decide) (by decide +kernel) (by decide) ?_
                        refine lv_aload_n hx hb d_L_law_620 rfl (lv_at hl 1 rfl) ?_
                        refine lv_aload_n hx hb d_L_law_621 rfl (lv_at hl 0 rfl) ?_
                        refine lv_iload hx hb d_L_law_622 (lv_at hl 4 rfl) ?_
                        refine lv_iconst (v := 1) hx hb d_L_law_624 (by decide) ?_
                        refine lv_iadd hx hb d_L_law_625 ?_
                        refine va_sld hx hb hX hbl hbA hS hi1 d_L_law_626 ?_
                        rw [← es1]
                        refine lv_aload_n hx hb d_L_law_627 rfl (lv_at hl 3 rfl) ?_
                        have hPc := hP.sub (ws' := (wO o0 a0 a1 a2 a3 a4 a5 co c1 c2 c4 c5 made size tooG out kept sizes rows taken)) [0, 1, 2, 3, 4, 5, 6] rfl
                        have hDc := hD.sub (ws' := (wO o0 a0 a1 a2 a3 a4 a5 co c1 c2 c4 c5 made size tooG out kept sizes rows taken)) [0, 1, 2, 3, 4, 5, 6] (by decide) rfl
                        have hKc := hK.sub (tys' := [(co, .long), (c1, .int), (c2, .int), (c4, .int), (c5, .int)]) [0, 1, 2, 3, 4] rfl
                        have hFc := va_free (wc := (wO o0 a0 a1 a2 a3 a4 a5 co c1 c2 c4 c5 made size tooG out kept sizes rows taken)) hD hS hA [0, 1, 2, 3, 4, 5, 6] rfl
                        refine va_calli (vx_runSW (As := [.ref a0, .int s1, .ref o0]) (rest := []) ⟨hx, hb, hml, hown, hB⟩ (c_L_terms l D o0 a0 a1 a2 a3 a4 a5 co c1 c2 c4 c5 H.size made size tooG out kept sizes rows taken s1 _ hst) (vx_cwSW 3 hB (goodSW wd_252 wd_253 wd_0 wd_254) rfl rfl rfl (by decide +kernel) ⟨Nat.le_of_ble_eq_true rfl, Nat.le_of_ble_eq_true rfl⟩) ⟨pcH_blind, pcH_pre hPc hKc hDc hS hXH hFc h⟩ rfl rfl hl.1 rfl (lv_room (Nat.le_of_ble_eq_true rfl)) d_L_law_628 ⟨by show _ ≤ 601024; omega, by show _ ≤ 7293034; omega⟩) hS (fun q _ h => hFc q h) hFc (fun r218 u t H1 locs ht hvm h hBu hz1 hk1 hS => ?_)
                        obtain ⟨made_219, size_220, tooG_221, out_222, kept_223, sizes_224, rows_225, taken_226⟩ := u
                        obtain ⟨hP1, hK1, hD1⟩ := hBu
                        rw [ht] at hP1
                        obtain ⟨hP, hD⟩ := va_join (wr := [(m0, .inr (2, [.int qcode, .int qfuns, .ref m1, .ref m2, .int qmade, .ref m3, .int qgreat, .ref m4, .ref m5, .long qup, .long qdown])), (m1, .inl (k1, 80, .inl qsize)), (m2, .inl (k2, 5600, .inl qrows)), (m3, .inl (k3, 840, .inl qwork)), (m4, .inl (k4, 7, .inl qxx)), (m5, .inl (k5, 5, .inl qpower))]) (w1 := (wO o0 a0 a1 a2 a3 a4 a5 co c1 c2 c4 c5 made_219 size_220 tooG_221 out_222 kept_223 sizes_224 rows_225 taken_226)) hP hD [0, 1, 2, 3, 4, 5, 6] [7, 8, 9, 10, 11, 12] rfl rfl (by decide) (by decide) hk1 hFc hP1 hD1
                        generalize H1 = H at hP hS ⊢
                        have hP : va_P D vwCl (wL o0 a0 a1 a2 a3 a4 a5 m0 m1 m2 m3 m4 m5 co c1 c2 c4 c5 k1 k2 k3 k4 k5 made_219 size_220 tooG_221 qcode qfuns qmade qgreat qup qdown out_222 kept_223 sizes_224 rows_225 taken_226 qsize qrows qwork qxx qpower) H := hP.sub [6, 7, 8, 9, 10, 11, 12, 0, 1, 2, 3, 4, 5] rfl
                        have hD : va_D A (wL o0 a0 a1 a2 a3 a4 a5 m0 m1 m2 m3 m4 m5 co c1 c2 c4 c5 k1 k2 k3 k4 k5 made_219 size_220 tooG_221 qcode qfuns qmade qgreat qup qdown out_222 kept_223 sizes_224 rows_225 taken_226 qsize qrows qwork qxx qpower) := hD.sub [6, 7, 8, 9, 10, 11, 12, 0, 1, 2, 3, 4, 5] (by decide) rfl
                        refine W.widen (k := 13 + 4 * (k + 1)) (n := 12939 + 24 * (k + 1)) (by omega) (by omega) ?_
                        refine lv_istore (lv' := [(5, .int r218), (0, .ref b), (1, .ref a0), (2, .ref m0), (3, .ref o0), (4, .int x4)]) hx hb d_L_law_631 hl (by decide) rfl (fun ls hl => ?_)
                        refine lv_aload_n hx hb d_L_law_633 rfl (lv_at hl 3 rfl) ?_
                        refine lv_aload_n hx hb d_L_law_634 rfl (lv_at hl 1 rfl) ?_
                        refine lv_iload hx hb d_L_law_635 (lv_at hl 5 rfl) ?_
                        refine lv_iconst (v := 1) hx hb d_L_law_637 (by decide) ?_
                        refine lv_iadd hx hb d_L_law_638 ?_
                        refine va_sld hx hb hX hbl hbA hS hi1 d_L_law_639 ?_
                        rw [← es1]
                        have hPc := hP.sub (ws' := (wM m0 m1 m2 m3 m4 m5 k1 k2 k3 k4 k5 qcode qfuns qmade qgreat qup qdown qsize qrows qwork qxx qpower)) [7, 8, 9, 10, 11, 12] rfl
                        have hDc := hD.sub (ws' := (wM m0 m1 m2 m3 m4 m5 k1 k2 k3 k4 k5 qcode qfuns qmade qgreat qup qdown qsize qrows qwork qxx qpower)) [7, 8, 9, 10, 11, 12] (by decide) rfl
                        have hKc := hK.sub (tys' := [(k1, .int), (k2, .int), (k3, .int), (k4, .int), (k5, .int)]) [5, 6, 7, 8, 9] rfl
                        have hFc := va_free (wc := (wM m0 m1 m2 m3 m4 m5 k1 k2 k3 k4 k5 qcode qfuns qmade qgreat qup qdown qsize qrows qwork qxx qpower)) hD hS hA [7, 8, 9, 10, 11, 12] rfl
                        refine va_calli (va_runV (As := [.int s1]) (rest := []) ⟨hx, hb, hml, hown, hB⟩ (c_M_terms l D m0 m1 m2 m3 m4 m5 k1 k2 k3 k4 k5 H.size qcode qfuns qmade qgreat qup qdown qsize qrows qwork qxx qpower s1 _) (cwV 1 hB (goodV wd_438 wd_439 wd_440 wd_3 wd_441) rfl rfl rfl (by decide +kernel) ⟨Nat.le_of_ble_eq_true rfl, Nat.le_of_ble_eq_true rfl⟩) ⟨pcG_blind, va_recv hKc hPc (ci := 2) (q0 := 0) rfl rfl, pcG_pre hPc hKc hDc h⟩ rfl rfl hl.1 rfl (lv_room (Nat.le_of_ble_eq_true rfl)) d_L_law_640 ⟨by show _ ≤ 601024; omega, by show _ ≤ 7293034; omega⟩) hS (fun q _ h => hFc q h) hFc (fun r227 qcode_228 t H1 locs ht hvm h hBu hz1 hk1 hS => ?_)
                        obtain ⟨hP1, hK1, hD1⟩ := hBu
                        rw [ht] at hP1
                        obtain ⟨hP, hD⟩ := va_join (wr := [(o0, .inl (co, 1, .inr (.inl out_222))), (a0, .inr (1, [.ref a1, .ref a2, .ref a3, .int made_219])), (a1, .inl (c1, 5600, .inl kept_223)), (a2, .inl (c2, 80, .inl sizes_224)), (a3, .inr (0, [.ref a4, .ref a5, .int size_220, .int tooG_221])), (a4, .inl (c4, 700, .inl rows_225)), (a5, .inl (c5, 7, .inl taken_226))]) (w1 := (wM m0 m1 m2 m3 m4 m5 k1 k2 k3 k4 k5 qcode_228 qfuns qmade qgreat qup qdown qsize qrows qwork qxx qpower)) hP hD [7, 8, 9, 10, 11, 12] [0, 1, 2, 3, 4, 5, 6] rfl rfl (by decide) (by decide) hk1 hFc hP1 hD1
                        generalize H1 = H at hP hS ⊢
                        have hP : va_P D vwCl (wL o0 a0 a1 a2 a3 a4 a5 m0 m1 m2 m3 m4 m5 co c1 c2 c4 c5 k1 k2 k3 k4 k5 made_219 size_220 tooG_221 qcode_228 qfuns qmade qgreat qup qdown out_222 kept_223 sizes_224 rows_225 taken_226 qsize qrows qwork qxx qpower) H := hP.sub [0, 1, 2, 3, 4, 5, 6, 7, 8, 9, 10, 11, 12] rfl
                        have hD : va_D A (wL o0 a0 a1 a2 a3 a4 a5 m0 m1 m2 m3 m4 m5 co c1 c2 c4 c5 k1 k2 k3 k4 k5 made_219 size_220 tooG_221 qcode_228 qfuns qmade qgreat qup qdown out_222 kept_223 sizes_224 rows_225 taken_226 qsize qrows qwork qxx qpower) := hD.sub [0, 1, 2, 3, 4, 5, 6, 7, 8, 9, 10, 11, 12] (by decide) rfl
                        refine W.widen (k := 13 + 4 * (k + 1)) (n := 12939 + 24 * (k + 1)) (by omega) (by omega) ?_
                        refine lv_istore (lv' := [(6, .int r227), (5, .int r218), (0, .ref b), (1, .ref a0), (2, .ref m0), (3, .ref o0), (4, .int x4)]) hx hb d_L_law_643 hl (by decide) rfl (fun ls hl => ?_)
                        refine lv_aload_n hx hb d_L_law_645 rfl (lv_at hl 4 rfl) ?_
                        have hPc := hP.sub (ws' := (wM m0 m1 m2 m3 m4 m5 k1 k2 k3 k4 k5 qcode_228 qfuns qmade qgreat qup qdown qsize qrows qwork qxx qpower)) [7, 8, 9, 10, 11, 12] rfl
                        have hDc := hD.sub (ws' := (wM m0 m1 m2 m3 m4 m5 k1 k2 k3 k4 k5 qcode_228 qfuns qmade qgreat qup qdown qsize qrows qwork qxx qpower)) [7, 8, 9, 10, 11, 12] (by decide) rfl
                        have hKc := hK.sub (tys' := [(k1, .int), (k2, .int), (k3, .int), (k4, .int), (k5, .int)]) [5, 6, 7, 8, 9] rfl
                        have hFc := va_free (wc := (wM m0 m1 m2 m3 m4 m5 k1 k2 k3 k4 k5 qcode_228 qfuns qmade qgreat qup qdown qsize qrows qwork qxx qpower)) hD hS hA [7, 8, 9, 10, 11, 12] rfl
                        refine va_calli (va_runV (As := []) (rest := []) ⟨hx, hb, hml, hown, hB⟩ (c_M_thrown l D m0 m1 m2 m3 m4 m5 k1 k2 k3 k4 k5 H.size qcode_228 qfuns qmade qgreat qup qdown qsize qrows qwork qxx qpower _) (cwV 0 hB (goodV wd_349 wd_350 wd_351 wd_3 wd_352) rfl rfl rfl (by decide +kernel) ⟨Nat.le_of_ble_eq_true rfl, Nat.le_of_ble_eq_true rfl⟩) ⟨pcG_blind, va_recv hKc hPc (ci := 2) (q0 := 0) rfl rfl, pcG_pre hPc hKc hDc h⟩ rfl rfl hl.1 rfl (lv_room (Nat.le_of_ble_eq_true rfl)) d_L_law_646 ⟨by show _ ≤ 601024; omega, by show _ ≤ 7293034; omega⟩) hS (fun q _ h => hFc q h) hFc (fun r229 u t H1 locs ht hvm h hBu hz1 hk1 hS => ?_)
                        obtain ⟨hP1, hK1, hD1⟩ := hBu
                        rw [ht] at hP1
                        obtain ⟨hP, hD⟩ := va_join (wr := [(o0, .inl (co, 1, .inr (.inl out_222))), (a0, .inr (1, [.ref a1, .ref a2, .ref a3, .int made_219])), (a1, .inl (c1, 5600, .inl kept_223)), (a2, .inl (c2, 80, .inl sizes_224)), (a3, .inr (0, [.ref a4, .ref a5, .int size_220, .int tooG_221])), (a4, .inl (c4, 700, .inl rows_225)), (a5, .inl (c5, 7, .inl taken_226))]) (w1 := (wM m0 m1 m2 m3 m4 m5 k1 k2 k3 k4 k5 qcode_228 qfuns qmade qgreat qup qdown qsize qrows qwork qxx qpower)) hP hD [7, 8, 9, 10, 11, 12] [0, 1, 2, 3, 4, 5, 6] rfl rfl (by decide) (by decide) hk1 hFc hP1 hD1
                        generalize H1 = H at hP hS ⊢
                        have hP : va_P D vwCl (wL o0 a0 a1 a2 a3 a4 a5 m0 m1 m2 m3 m4 m5 co c1 c2 c4 c5 k1 k2 k3 k4 k5 made_219 size_220 tooG_221 qcode_228 qfuns qmade qgreat qup qdown out_222 kept_223 sizes_224 rows_225 taken_226 qsize qrows qwork qxx qpower) H := hP.sub [0, 1, 2, 3, 4, 5, 6, 7, 8, 9, 10, 11, 12] rfl
                        have hD : va_D A (wL o0 a0 a1 a2 a3 a4 a5 m0 m1 m2 m3 m4 m5 co c1 c2 c4 c5 k1 k2 k3 k4 k5 made_219 size_220 tooG_221 qcode_228 qfuns qmade qgreat qup qdown out_222 kept_223 sizes_224 rows_225 taken_226 qsize qrows qwork qxx qpower) := hD.sub [0, 1, 2, 3, 4, 5, 6, 7, 8, 9, 10, 11, 12] (by decide) rfl
                        refine W.widen (k := 13 + 4 * (k + 1)) (n := 12939 + 24 * (k + 1)) (by omega) (by omega) ?_
                        refine lv_iload hx hb d_L_law_649 (lv_at hl 1 rfl) ?_
                        refine lv_icmp_eq (tgt := 656) hx hb d_L_law_651 (by decide) (fun hc230 => ?_) (fun hc230 => ?_)
                        · replace h := h.1 hc230
                          refine lv_iload hx hb d_L_law_656 (lv_at hl 1 rfl) ?_
                          refine lv_if_ne (tgt := 673) hx hb d_L_law_658 (by decide) (fun hc231 => ?_) (fun hc231 => ?_)
                          · replace h := h.1 hc231
                            refine lv_goto (tgt := 1227) hx hb d_L_law_673 (by decide) ?_
                            obtain ⟨x232, ex232⟩ : ∃ z : Int32, z = x4 + 4 := ⟨_, rfl⟩
                            refine lv_iinc (v := x232) (lv' := [(4, .int x232), (6, .int r227), (5, .int r218), (0, .ref b), (1, .ref a0), (2, .ref m0), (3, .ref o0)]) hx hb d_L_law_1227 hl (k := 6) rfl (by rw [ex232]; rfl) (by decide) rfl (fun ls hl => ?_)
                            refine lv_goto (tgt := 23) hx hb d_L_law_1230 (by decide) ?_
                            exact ihn (k + 1) x232 made_219 size_220 tooG_221 qcode_228 qfuns qmade qgreat qup qdown out_222 kept_223 sizes_224 rows_225 taken_226 qsize qrows qwork qxx qpower _ _ _ (by omega) (by omega) (by rw [ex232, ex4]; exact (nI_add _ 4).trans (by rw [show 4 * (k + 1) = 4 * k + 4 by omega])) h hP hD hS (lv_sub hl [3, 4, 5, 6, 0] rfl)
                          · replace h := h.2 hc231
                            refine lv_aload_n hx hb d_L_law_661 rfl (lv_at hl 5 rfl) ?_
                            refine lv_iconst (v := 0) hx hb d_L_law_662 (by decide) ?_
                            obtain ⟨g233, h⟩ := h
                            refine va_lald hx hb hK hP 0 0 rfl rfl g233 d_L_law_663 ?_
                            refine lv_iload hx hb d_L_law_664 (lv_at hl 0 rfl) ?_
                            refine lv_i2l hx hb d_L_law_666 rfl ?_
                            refine W.lcmp hx hb d_L_law_667 ?_
                            refine lv_if_eq (tgt := 673) hx hb d_L_law_668 (by decide) (fun hc234 => ?_) (fun hc234 => ?_)
                            · replace h := h.1 hc234
                              refine lv_goto (tgt := 1227) hx hb d_L_law_673 (by decide) ?_
                              obtain ⟨x235, ex235⟩ : ∃ z : Int32, z = x4 + 4 := ⟨_, rfl⟩
                              refine lv_iinc (v := x235) (lv' := [(4, .int x235), (6, .int r227), (5, .int r218), (0, .ref b), (1, .ref a0), (2, .ref m0), (3, .ref o0)]) hx hb d_L_law_1227 hl (k := 6) rfl (by rw [ex235]; rfl) (by decide) rfl (fun ls hl => ?_)
                              refine lv_goto (tgt := 23) hx hb d_L_law_1230 (by decide) ?_
                              exact ihn (k + 1) x235 made_219 size_220 tooG_221 qcode_228 qfuns qmade qgreat qup qdown out_222 kept_223 sizes_224 rows_225 taken_226 qsize qrows qwork qxx qpower _ _ _ (by omega) (by omega) (by rw [ex235, ex4]; exact (nI_add _ 4).trans (by rw [show 4 * (k + 1) = 4 * k + 4 by omega])) h hP hD hS (lv_sub hl [3, 4, 5, 6, 0] rfl)
                            · replace h := h.2 hc234
                              refine lv_iconst (v := 0) hx hb d_L_law_671 (by decide) ?_
                              exact (show False from h).elim
                        · replace h := h.2 hc230
                          refine lv_iconst (v := 0) hx hb d_L_law_654 (by decide) ?_
                          exact (show False from h).elim
                      · replace h := h.2 t8
                        by_cases t9 : sw = 9
                        · replace h := h.1 t9
                          clear esw
                          subst t9
                          refine lv_tableIn (off := 637) (tgt := 676) hx hb d_L_law_39 (by decide) (by decide) (by decide +kernel) (by decide) ?_
                          refine lv_aload_n hx hb d_L_law_676 rfl (lv_at hl 1 rfl) ?_
                          refine lv_aload_n hx hb d_L_law_677 rfl (lv_at hl 0 rfl) ?_
                          refine lv_iload hx hb d_L_law_678 (lv_at hl 4 rfl) ?_
                          refine lv_iconst (v := 1) hx hb d_L_law_680 (by decide) ?_
                          refine lv_iadd hx hb d_L_law_681 ?_
                          refine va_sld hx hb hX hbl hbA hS hi1 d_L_law_682 ?_
                          rw [← es1]
                          refine lv_aload_n hx hb d_L_law_683 rfl (lv_at hl 0 rfl) ?_
                          refine lv_iload hx hb d_L_law_684 (lv_at hl 4 rfl) ?_
                          refine lv_iconst (v := 2) hx hb d_L_law_686 (by decide) ?_
                          refine lv_iadd hx hb d_L_law_687 ?_
                          refine va_sld hx hb hX hbl hbA hS hi2 d_L_law_688 ?_
                          rw [← es2]
                          refine lv_aload_n hx hb d_L_law_689 rfl (lv_at hl 0 rfl) ?_
                          refine lv_iload hx hb d_L_law_690 (lv_at hl 4 rfl) ?_
                          refine lv_iconst (v := 3) hx hb d_L_law_692 (by decide) ?_
                          refine lv_iadd hx hb d_L_law_693 ?_
                          refine va_sld hx hb hX hbl hbA hS hi3 d_L_law_694 ?_
                          rw [← es3]
                          refine lv_aload_n hx hb d_L_law_695 rfl (lv_at hl 3 rfl) ?_
                          have hPc := hP.sub (ws' := (wO o0 a0 a1 a2 a3 a4 a5 co c1 c2 c4 c5 made size tooG out kept sizes rows taken)) [0, 1, 2, 3, 4, 5, 6] rfl
                          have hDc := hD.sub (ws' := (wO o0 a0 a1 a2 a3 a4 a5 co c1 c2 c4 c5 made size tooG out kept sizes rows taken)) [0, 1, 2, 3, 4, 5, 6] (by decide) rfl
                          have hKc := hK.sub (tys' := [(co, .long), (c1, .int), (c2, .int), (c4, .int), (c5, .int)]) [0, 1, 2, 3, 4] rfl
                          have hFc := va_free (wc := (wO o0 a0 a1 a2 a3 a4 a5 co c1 c2 c4 c5 made size tooG out kept sizes rows taken)) hD hS hA [0, 1, 2, 3, 4, 5, 6] rfl
                          refine va_calli (vx_runSW (As := [.ref a0, .int s1, .int s2, .int s3, .ref o0]) (rest := []) ⟨hx, hb, hml, hown, hB⟩ (c_L_term l D o0 a0 a1 a2 a3 a4 a5 co c1 c2 c4 c5 H.size made size tooG out kept sizes rows taken s1 s2 s3 _ hst) (vx_cwSW 5 hB (goodSW wd_259 wd_260 wd_0 wd_261) rfl rfl rfl (by decide +kernel) ⟨Nat.le_of_ble_eq_true rfl, Nat.le_of_ble_eq_true rfl⟩) ⟨pcH_blind, pcH_pre hPc hKc hDc hS hXH hFc h⟩ rfl rfl hl.1 rfl (lv_room (Nat.le_of_ble_eq_true rfl)) d_L_law_696 ⟨by show _ ≤ 601024; omega, by show _ ≤ 7293034; omega⟩) hS (fun q _ h => hFc q h) hFc (fun r236 u t H1 locs ht hvm h hBu hz1 hk1 hS => ?_)
                          obtain ⟨made_237, size_238, tooG_239, out_240, kept_241, sizes_242, rows_243, taken_244⟩ := u
                          obtain ⟨hP1, hK1, hD1⟩ := hBu
                          rw [ht] at hP1
                          obtain ⟨hP, hD⟩ := va_join (wr := [(m0, .inr (2, [.int qcode, .int qfuns, .ref m1, .ref m2, .int qmade, .ref m3, .int qgreat, .ref m4, .ref m5, .long qup, .long qdown])), (m1, .inl (k1, 80, .inl qsize)), (m2, .inl (k2, 5600, .inl qrows)), (m3, .inl (k3, 840, .inl qwork)), (m4, .inl (k4, 7, .inl qxx)), (m5, .inl (k5, 5, .inl qpower))]) (w1 := (wO o0 a0 a1 a2 a3 a4 a5 co c1 c2 c4 c5 made_237 size_238 tooG_239 out_240 kept_241 sizes_242 rows_243 taken_244)) hP hD [0, 1, 2, 3, 4, 5, 6] [7, 8, 9, 10, 11, 12] rfl rfl (by decide) (by decide) hk1 hFc hP1 hD1
                          generalize H1 = H at hP hS ⊢
                          have hP : va_P D vwCl (wL o0 a0 a1 a2 a3 a4 a5 m0 m1 m2 m3 m4 m5 co c1 c2 c4 c5 k1 k2 k3 k4 k5 made_237 size_238 tooG_239 qcode qfuns qmade qgreat qup qdown out_240 kept_241 sizes_242 rows_243 taken_244 qsize qrows qwork qxx qpower) H := hP.sub [6, 7, 8, 9, 10, 11, 12, 0, 1, 2, 3, 4, 5] rfl
                          have hD : va_D A (wL o0 a0 a1 a2 a3 a4 a5 m0 m1 m2 m3 m4 m5 co c1 c2 c4 c5 k1 k2 k3 k4 k5 made_237 size_238 tooG_239 qcode qfuns qmade qgreat qup qdown out_240 kept_241 sizes_242 rows_243 taken_244 qsize qrows qwork qxx qpower) := hD.sub [6, 7, 8, 9, 10, 11, 12, 0, 1, 2, 3, 4, 5] (by decide) rfl
                          refine W.widen (k := 13 + 4 * (k + 1)) (n := 12939 + 24 * (k + 1)) (by omega) (by omega) ?_
                          refine lv_istore (lv' := [(5, .int r236), (0, .ref b), (1, .ref a0), (2, .ref m0), (3, .ref o0), (4, .int x4)]) hx hb d_L_law_699 hl (by decide) rfl (fun ls hl => ?_)
                          refine lv_aload_n hx hb d_L_law_701 rfl (lv_at hl 3 rfl) ?_
                          refine lv_aload_n hx hb d_L_law_702 rfl (lv_at hl 1 rfl) ?_
                          refine lv_iload hx hb d_L_law_703 (lv_at hl 5 rfl) ?_
                          refine lv_iconst (v := 1) hx hb d_L_law_705 (by decide) ?_
                          refine lv_iadd hx hb d_L_law_706 ?_
                          refine va_sld hx hb hX hbl hbA hS hi1 d_L_law_707 ?_
                          rw [← es1]
                          refine lv_aload_n hx hb d_L_law_708 rfl (lv_at hl 1 rfl) ?_
                          refine lv_iload hx hb d_L_law_709 (lv_at hl 5 rfl) ?_
                          refine lv_iconst (v := 2) hx hb d_L_law_711 (by decide) ?_
                          refine lv_iadd hx hb d_L_law_712 ?_
                          refine va_sld hx hb hX hbl hbA hS hi2 d_L_law_713 ?_
                          rw [← es2]
                          refine lv_aload_n hx hb d_L_law_714 rfl (lv_at hl 1 rfl) ?_
                          refine lv_iload hx hb d_L_law_715 (lv_at hl 5 rfl) ?_
                          refine lv_iconst (v := 3) hx hb d_L_law_717 (by decide) ?_
                          refine lv_iadd hx hb d_L_law_718 ?_
                          refine va_sld hx hb hX hbl hbA hS hi3 d_L_law_719 ?_
                          rw [← es3]
                          have hPc := hP.sub (ws' := (wM m0 m1 m2 m3 m4 m5 k1 k2 k3 k4 k5 qcode qfuns qmade qgreat qup qdown qsize qrows qwork qxx qpower)) [7, 8, 9, 10, 11, 12] rfl
                          have hDc := hD.sub (ws' := (wM m0 m1 m2 m3 m4 m5 k1 k2 k3 k4 k5 qcode qfuns qmade qgreat qup qdown qsize qrows qwork qxx qpower)) [7, 8, 9, 10, 11, 12] (by decide) rfl
                          have hKc := hK.sub (tys' := [(k1, .int), (k2, .int), (k3, .int), (k4, .int), (k5, .int)]) [5, 6, 7, 8, 9] rfl
                          have hFc := va_free (wc := (wM m0 m1 m2 m3 m4 m5 k1 k2 k3 k4 k5 qcode qfuns qmade qgreat qup qdown qsize qrows qwork qxx qpower)) hD hS hA [7, 8, 9, 10, 11, 12] rfl
                          refine va_calli (va_runV (As := [.int s1, .int s2, .int s3]) (rest := []) ⟨hx, hb, hml, hown, hB⟩ (c_M_term l D m0 m1 m2 m3 m4 m5 k1 k2 k3 k4 k5 H.size qcode qfuns qmade qgreat qup qdown qsize qrows qwork qxx qpower s1 s2 s3 _) (cwV 3 hB (goodV wd_442 wd_443 wd_444 wd_3 wd_445) rfl rfl rfl (by decide +kernel) ⟨Nat.le_of_ble_eq_true rfl, Nat.le_of_ble_eq_true rfl⟩) ⟨pcG_blind, va_recv hKc hPc (ci := 2) (q0 := 0) rfl rfl, pcG_pre hPc hKc hDc h⟩ rfl rfl hl.1 rfl (lv_room (Nat.le_of_ble_eq_true rfl)) d_L_law_720 ⟨by show _ ≤ 601024; omega, by show _ ≤ 7293034; omega⟩) hS (fun q _ h => hFc q h) hFc (fun r245 qcode_246 t H1 locs ht hvm h hBu hz1 hk1 hS => ?_)
                          obtain ⟨hP1, hK1, hD1⟩ := hBu
                          rw [ht] at hP1
                          obtain ⟨hP, hD⟩ := va_join (wr := [(o0, .inl (co, 1, .inr (.inl out_240))), (a0, .inr (1, [.ref a1, .ref a2, .ref a3, .int made_237])), (a1, .inl (c1, 5600, .inl kept_241)), (a2, .inl (c2, 80, .inl sizes_242)), (a3, .inr (0, [.ref a4, .ref a5, .int size_238, .int tooG_239])), (a4, .inl (c4, 700, .inl rows_243)), (a5, .inl (c5, 7, .inl taken_244))]) (w1 := (wM m0 m1 m2 m3 m4 m5 k1 k2 k3 k4 k5 qcode_246 qfuns qmade qgreat qup qdown qsize qrows qwork qxx qpower)) hP hD [7, 8, 9, 10, 11, 12] [0, 1, 2, 3, 4, 5, 6] rfl rfl (by decide) (by decide) hk1 hFc hP1 hD1
                          generalize H1 = H at hP hS ⊢
                          have hP : va_P D vwCl (wL o0 a0 a1 a2 a3 a4 a5 m0 m1 m2 m3 m4 m5 co c1 c2 c4 c5 k1 k2 k3 k4 k5 made_237 size_238 tooG_239 qcode_246 qfuns qmade qgreat qup qdown out_240 kept_241 sizes_242 rows_243 taken_244 qsize qrows qwork qxx qpower) H := hP.sub [0, 1, 2, 3, 4, 5, 6, 7, 8, 9, 10, 11, 12] rfl
                          have hD : va_D A (wL o0 a0 a1 a2 a3 a4 a5 m0 m1 m2 m3 m4 m5 co c1 c2 c4 c5 k1 k2 k3 k4 k5 made_237 size_238 tooG_239 qcode_246 qfuns qmade qgreat qup qdown out_240 kept_241 sizes_242 rows_243 taken_244 qsize qrows qwork qxx qpower) := hD.sub [0, 1, 2, 3, 4, 5, 6, 7, 8, 9, 10, 11, 12] (by decide) rfl
                          refine W.widen (k := 13 + 4 * (k + 1)) (n := 12939 + 24 * (k + 1)) (by omega) (by omega) ?_
                          refine lv_istore (lv' := [(6, .int r245), (5, .int r236), (0, .ref b), (1, .ref a0), (2, .ref m0), (3, .ref o0), (4, .int x4)]) hx hb d_L_law_723 hl (by decide) rfl (fun ls hl => ?_)
                          refine lv_aload_n hx hb d_L_law_725 rfl (lv_at hl 4 rfl) ?_
                          have hPc := hP.sub (ws' := (wM m0 m1 m2 m3 m4 m5 k1 k2 k3 k4 k5 qcode_246 qfuns qmade qgreat qup qdown qsize qrows qwork qxx qpower)) [7, 8, 9, 10, 11, 12] rfl
                          have hDc := hD.sub (ws' := (wM m0 m1 m2 m3 m4 m5 k1 k2 k3 k4 k5 qcode_246 qfuns qmade qgreat qup qdown qsize qrows qwork qxx qpower)) [7, 8, 9, 10, 11, 12] (by decide) rfl
                          have hKc := hK.sub (tys' := [(k1, .int), (k2, .int), (k3, .int), (k4, .int), (k5, .int)]) [5, 6, 7, 8, 9] rfl
                          have hFc := va_free (wc := (wM m0 m1 m2 m3 m4 m5 k1 k2 k3 k4 k5 qcode_246 qfuns qmade qgreat qup qdown qsize qrows qwork qxx qpower)) hD hS hA [7, 8, 9, 10, 11, 12] rfl
                          refine va_calli (va_runV (As := []) (rest := []) ⟨hx, hb, hml, hown, hB⟩ (c_M_thrown l D m0 m1 m2 m3 m4 m5 k1 k2 k3 k4 k5 H.size qcode_246 qfuns qmade qgreat qup qdown qsize qrows qwork qxx qpower _) (cwV 0 hB (goodV wd_349 wd_350 wd_351 wd_3 wd_352) rfl rfl rfl (by decide +kernel) ⟨Nat.le_of_ble_eq_true rfl, Nat.le_of_ble_eq_true rfl⟩) ⟨pcG_blind, va_recv hKc hPc (ci := 2) (q0 := 0) rfl rfl, pcG_pre hPc hKc hDc h⟩ rfl rfl hl.1 rfl (lv_room (Nat.le_of_ble_eq_true rfl)) d_L_law_726 ⟨by show _ ≤ 601024; omega, by show _ ≤ 7293034; omega⟩) hS (fun q _ h => hFc q h) hFc (fun r247 u t H1 locs ht hvm h hBu hz1 hk1 hS => ?_)
                          obtain ⟨hP1, hK1, hD1⟩ := hBu
                          rw [ht] at hP1
                          obtain ⟨hP, hD⟩ := va_join (wr := [(o0, .inl (co, 1, .inr (.inl out_240))), (a0, .inr (1, [.ref a1, .ref a2, .ref a3, .int made_237])), (a1, .inl (c1, 5600, .inl kept_241)), (a2, .inl (c2, 80, .inl sizes_242)), (a3, .inr (0, [.ref a4, .ref a5, .int size_238, .int tooG_239])), (a4, .inl (c4, 700, .inl rows_243)), (a5, .inl (c5, 7, .inl taken_244))]) (w1 := (wM m0 m1 m2 m3 m4 m5 k1 k2 k3 k4 k5 qcode_246 qfuns qmade qgreat qup qdown qsize qrows qwork qxx qpower)) hP hD [7, 8, 9, 10, 11, 12] [0, 1, 2, 3, 4, 5, 6] rfl rfl (by decide) (by decide) hk1 hFc hP1 hD1
                          generalize H1 = H at hP hS ⊢
                          have hP : va_P D vwCl (wL o0 a0 a1 a2 a3 a4 a5 m0 m1 m2 m3 m4 m5 co c1 c2 c4 c5 k1 k2 k3 k4 k5 made_237 size_238 tooG_239 qcode_246 qfuns qmade qgreat qup qdown out_240 kept_241 sizes_242 rows_243 taken_244 qsize qrows qwork qxx qpower) H := hP.sub [0, 1, 2, 3, 4, 5, 6, 7, 8, 9, 10, 11, 12] rfl
                          have hD : va_D A (wL o0 a0 a1 a2 a3 a4 a5 m0 m1 m2 m3 m4 m5 co c1 c2 c4 c5 k1 k2 k3 k4 k5 made_237 size_238 tooG_239 qcode_246 qfuns qmade qgreat qup qdown out_240 kept_241 sizes_242 rows_243 taken_244 qsize qrows qwork qxx qpower) := hD.sub [0, 1, 2, 3, 4, 5, 6, 7, 8, 9, 10, 11, 12] (by decide) rfl
                          refine W.widen (k := 13 + 4 * (k + 1)) (n := 12939 + 24 * (k + 1)) (by omega) (by omega) ?_
                          refine lv_iload hx hb d_L_law_729 (lv_at hl 1 rfl) ?_
                          refine lv_icmp_eq (tgt := 736) hx hb d_L_law_731 (by decide) (fun hc248 => ?_) (fun hc248 => ?_)
                          · replace h := h.1 hc248
                            refine lv_iload hx hb d_L_law_736 (lv_at hl 1 rfl) ?_
                            refine lv_if_ne (tgt := 753) hx hb d_L_law_738 (by decide) (fun hc249 => ?_) (fun hc249 => ?_)
                            · replace h := h.1 hc249
                              refine lv_goto (tgt := 1227) hx hb d_L_law_753 (by decide) ?_
                              obtain ⟨x250, ex250⟩ : ∃ z : Int32, z = x4 + 4 := ⟨_, rfl⟩
                              refine lv_iinc (v := x250) (lv' := [(4, .int x250), (6, .int r245), (5, .int r236), (0, .ref b), (1, .ref a0), (2, .ref m0), (3, .ref o0)]) hx hb d_L_law_1227 hl (k := 6) rfl (by rw [ex250]; rfl) (by decide) rfl (fun ls hl => ?_)
                              refine lv_goto (tgt := 23) hx hb d_L_law_1230 (by decide) ?_
                              exact ihn (k + 1) x250 made_237 size_238 tooG_239 qcode_246 qfuns qmade qgreat qup qdown out_240 kept_241 sizes_242 rows_243 taken_244 qsize qrows qwork qxx qpower _ _ _ (by omega) (by omega) (by rw [ex250, ex4]; exact (nI_add _ 4).trans (by rw [show 4 * (k + 1) = 4 * k + 4 by omega])) h hP hD hS (lv_sub hl [3, 4, 5, 6, 0] rfl)
                            · replace h := h.2 hc249
                              refine lv_aload_n hx hb d_L_law_741 rfl (lv_at hl 5 rfl) ?_
                              refine lv_iconst (v := 0) hx hb d_L_law_742 (by decide) ?_
                              obtain ⟨g251, h⟩ := h
                              refine va_lald hx hb hK hP 0 0 rfl rfl g251 d_L_law_743 ?_
                              refine lv_iload hx hb d_L_law_744 (lv_at hl 0 rfl) ?_
                              refine lv_i2l hx hb d_L_law_746 rfl ?_
                              refine W.lcmp hx hb d_L_law_747 ?_
                              refine lv_if_eq (tgt := 753) hx hb d_L_law_748 (by decide) (fun hc252 => ?_) (fun hc252 => ?_)
                              · replace h := h.1 hc252
                                refine lv_goto (tgt := 1227) hx hb d_L_law_753 (by decide) ?_
                                obtain ⟨x253, ex253⟩ : ∃ z : Int32, z = x4 + 4 := ⟨_, rfl⟩
                                refine lv_iinc (v := x253) (lv' := [(4, .int x253), (6, .int r245), (5, .int r236), (0, .ref b), (1, .ref a0), (2, .ref m0), (3, .ref o0)]) hx hb d_L_law_1227 hl (k := 6) rfl (by rw [ex253]; rfl) (by decide) rfl (fun ls hl => ?_)
                                refine lv_goto (tgt := 23) hx hb d_L_law_1230 (by decide) ?_
                                exact ihn (k + 1) x253 made_237 size_238 tooG_239 qcode_246 qfuns qmade qgreat qup qdown out_240 kept_241 sizes_242 rows_243 taken_244 qsize qrows qwork qxx qpower _ _ _ (by omega) (by omega) (by rw [ex253, ex4]; exact (nI_add _ 4).trans (by rw [show 4 * (k + 1) = 4 * k + 4 by omega])) h hP hD hS (lv_sub hl [3, 4, 5, 6, 0] rfl)
                              · replace h := h.2 hc252
                                refine lv_iconst (v := 0) hx hb d_L_law_751 (by decide) ?_
                                exact (show False from h).elim
                          · replace h := h.2 hc248
                            refine lv_iconst (v := 0) hx hb d_L_law_734 (by decide) ?_
                            exact (show False from h).elim
                        · replace h := h.2 t9
                          by_cases t10 : sw = 10
                          · replace h := h.1 t10
                            clear esw
                            subst t10
                            refine lv_tableIn (off := 717) (tgt := 756) hx hb d_L_law_39 (by decide) (by decide) (by decide +kernel) (by decide) ?_
                            refine lv_aload_n hx hb d_L_law_756 rfl (lv_at hl 1 rfl) ?_
                            refine lv_aload_n hx hb d_L_law_757 rfl (lv_at hl 0 rfl) ?_
                            refine lv_iload hx hb d_L_law_758 (lv_at hl 4 rfl) ?_
                            refine lv_iconst (v := 1) hx hb d_L_law_760 (by decide) ?_
                            refine lv_iadd hx hb d_L_law_761 ?_
                            refine va_sld hx hb hX hbl hbA hS hi1 d_L_law_762 ?_
                            rw [← es1]
                            refine lv_aload_n hx hb d_L_law_763 rfl (lv_at hl 3 rfl) ?_
                            have hPc := hP.sub (ws' := (wO o0 a0 a1 a2 a3 a4 a5 co c1 c2 c4 c5 made size tooG out kept sizes rows taken)) [0, 1, 2, 3, 4, 5, 6] rfl
                            have hDc := hD.sub (ws' := (wO o0 a0 a1 a2 a3 a4 a5 co c1 c2 c4 c5 made size tooG out kept sizes rows taken)) [0, 1, 2, 3, 4, 5, 6] (by decide) rfl
                            have hKc := hK.sub (tys' := [(co, .long), (c1, .int), (c2, .int), (c4, .int), (c5, .int)]) [0, 1, 2, 3, 4] rfl
                            have hFc := va_free (wc := (wO o0 a0 a1 a2 a3 a4 a5 co c1 c2 c4 c5 made size tooG out kept sizes rows taken)) hD hS hA [0, 1, 2, 3, 4, 5, 6] rfl
                            refine va_calli (vx_runSW (As := [.ref a0, .int s1, .ref o0]) (rest := []) ⟨hx, hb, hml, hown, hB⟩ (c_L_limit l D o0 a0 a1 a2 a3 a4 a5 co c1 c2 c4 c5 H.size made size tooG out kept sizes rows taken s1 _ hst) (vx_cwSW 3 hB (goodSW wd_266 wd_267 wd_0 wd_268) rfl rfl rfl (by decide +kernel) ⟨Nat.le_of_ble_eq_true rfl, Nat.le_of_ble_eq_true rfl⟩) ⟨pcH_blind, pcH_pre hPc hKc hDc hS hXH hFc h⟩ rfl rfl hl.1 rfl (lv_room (Nat.le_of_ble_eq_true rfl)) d_L_law_764 ⟨by show _ ≤ 601024; omega, by show _ ≤ 7293034; omega⟩) hS (fun q _ h => hFc q h) hFc (fun r254 u t H1 locs ht hvm h hBu hz1 hk1 hS => ?_)
                            obtain ⟨made_255, size_256, tooG_257, out_258, kept_259, sizes_260, rows_261, taken_262⟩ := u
                            obtain ⟨hP1, hK1, hD1⟩ := hBu
                            rw [ht] at hP1
                            obtain ⟨hP, hD⟩ := va_join (wr := [(m0, .inr (2, [.int qcode, .int qfuns, .ref m1, .ref m2, .int qmade, .ref m3, .int qgreat, .ref m4, .ref m5, .long qup, .long qdown])), (m1, .inl (k1, 80, .inl qsize)), (m2, .inl (k2, 5600, .inl qrows)), (m3, .inl (k3, 840, .inl qwork)), (m4, .inl (k4, 7, .inl qxx)), (m5, .inl (k5, 5, .inl qpower))]) (w1 := (wO o0 a0 a1 a2 a3 a4 a5 co c1 c2 c4 c5 made_255 size_256 tooG_257 out_258 kept_259 sizes_260 rows_261 taken_262)) hP hD [0, 1, 2, 3, 4, 5, 6] [7, 8, 9, 10, 11, 12] rfl rfl (by decide) (by decide) hk1 hFc hP1 hD1
                            generalize H1 = H at hP hS ⊢
                            have hP : va_P D vwCl (wL o0 a0 a1 a2 a3 a4 a5 m0 m1 m2 m3 m4 m5 co c1 c2 c4 c5 k1 k2 k3 k4 k5 made_255 size_256 tooG_257 qcode qfuns qmade qgreat qup qdown out_258 kept_259 sizes_260 rows_261 taken_262 qsize qrows qwork qxx qpower) H := hP.sub [6, 7, 8, 9, 10, 11, 12, 0, 1, 2, 3, 4, 5] rfl
                            have hD : va_D A (wL o0 a0 a1 a2 a3 a4 a5 m0 m1 m2 m3 m4 m5 co c1 c2 c4 c5 k1 k2 k3 k4 k5 made_255 size_256 tooG_257 qcode qfuns qmade qgreat qup qdown out_258 kept_259 sizes_260 rows_261 taken_262 qsize qrows qwork qxx qpower) := hD.sub [6, 7, 8, 9, 10, 11, 12, 0, 1, 2, 3, 4, 5] (by decide) rfl
                            refine W.widen (k := 13 + 4 * (k + 1)) (n := 12939 + 24 * (k + 1)) (by omega) (by omega) ?_
                            refine lv_istore (lv' := [(5, .int r254), (0, .ref b), (1, .ref a0), (2, .ref m0), (3, .ref o0), (4, .int x4)]) hx hb d_L_law_767 hl (by decide) rfl (fun ls hl => ?_)
                            refine lv_aload_n hx hb d_L_law_769 rfl (lv_at hl 3 rfl) ?_
                            refine lv_aload_n hx hb d_L_law_770 rfl (lv_at hl 1 rfl) ?_
                            refine lv_iload hx hb d_L_law_771 (lv_at hl 5 rfl) ?_
                            refine lv_iconst (v := 1) hx hb d_L_law_773 (by decide) ?_
                            refine lv_iadd hx hb d_L_law_774 ?_
                            refine va_sld hx hb hX hbl hbA hS hi1 d_L_law_775 ?_
                            rw [← es1]
                            have hPc := hP.sub (ws' := (wM m0 m1 m2 m3 m4 m5 k1 k2 k3 k4 k5 qcode qfuns qmade qgreat qup qdown qsize qrows qwork qxx qpower)) [7, 8, 9, 10, 11, 12] rfl
                            have hDc := hD.sub (ws' := (wM m0 m1 m2 m3 m4 m5 k1 k2 k3 k4 k5 qcode qfuns qmade qgreat qup qdown qsize qrows qwork qxx qpower)) [7, 8, 9, 10, 11, 12] (by decide) rfl
                            have hKc := hK.sub (tys' := [(k1, .int), (k2, .int), (k3, .int), (k4, .int), (k5, .int)]) [5, 6, 7, 8, 9] rfl
                            have hFc := va_free (wc := (wM m0 m1 m2 m3 m4 m5 k1 k2 k3 k4 k5 qcode qfuns qmade qgreat qup qdown qsize qrows qwork qxx qpower)) hD hS hA [7, 8, 9, 10, 11, 12] rfl
                            refine va_calli (va_runV (As := [.int s1]) (rest := []) ⟨hx, hb, hml, hown, hB⟩ (c_M_limit l D m0 m1 m2 m3 m4 m5 k1 k2 k3 k4 k5 H.size qcode qfuns qmade qgreat qup qdown qsize qrows qwork qxx qpower s1 _) (cwV 1 hB (goodV wd_454 wd_455 wd_456 wd_3 wd_457) rfl rfl rfl (by decide +kernel) ⟨Nat.le_of_ble_eq_true rfl, Nat.le_of_ble_eq_true rfl⟩) ⟨pcG_blind, va_recv hKc hPc (ci := 2) (q0 := 0) rfl rfl, pcG_pre hPc hKc hDc h⟩ rfl rfl hl.1 rfl (lv_room (Nat.le_of_ble_eq_true rfl)) d_L_law_776 ⟨by show _ ≤ 601024; omega, by show _ ≤ 7293034; omega⟩) hS (fun q _ h => hFc q h) hFc (fun r263 qcode_264 t H1 locs ht hvm h hBu hz1 hk1 hS => ?_)
                            obtain ⟨hP1, hK1, hD1⟩ := hBu
                            rw [ht] at hP1
                            obtain ⟨hP, hD⟩ := va_join (wr := [(o0, .inl (co, 1, .inr (.inl out_258))), (a0, .inr (1, [.ref a1, .ref a2, .ref a3, .int made_255])), (a1, .inl (c1, 5600, .inl kept_259)), (a2, .inl (c2, 80, .inl sizes_260)), (a3, .inr (0, [.ref a4, .ref a5, .int size_256, .int tooG_257])), (a4, .inl (c4, 700, .inl rows_261)), (a5, .inl (c5, 7, .inl taken_262))]) (w1 := (wM m0 m1 m2 m3 m4 m5 k1 k2 k3 k4 k5 qcode_264 qfuns qmade qgreat qup qdown qsize qrows qwork qxx qpower)) hP hD [7, 8, 9, 10, 11, 12] [0, 1, 2, 3, 4, 5, 6] rfl rfl (by decide) (by decide) hk1 hFc hP1 hD1
                            generalize H1 = H at hP hS ⊢
                            have hP : va_P D vwCl (wL o0 a0 a1 a2 a3 a4 a5 m0 m1 m2 m3 m4 m5 co c1 c2 c4 c5 k1 k2 k3 k4 k5 made_255 size_256 tooG_257 qcode_264 qfuns qmade qgreat qup qdown out_258 kept_259 sizes_260 rows_261 taken_262 qsize qrows qwork qxx qpower) H := hP.sub [0, 1, 2, 3, 4, 5, 6, 7, 8, 9, 10, 11, 12] rfl
                            have hD : va_D A (wL o0 a0 a1 a2 a3 a4 a5 m0 m1 m2 m3 m4 m5 co c1 c2 c4 c5 k1 k2 k3 k4 k5 made_255 size_256 tooG_257 qcode_264 qfuns qmade qgreat qup qdown out_258 kept_259 sizes_260 rows_261 taken_262 qsize qrows qwork qxx qpower) := hD.sub [0, 1, 2, 3, 4, 5, 6, 7, 8, 9, 10, 11, 12] (by decide) rfl
                            refine W.widen (k := 13 + 4 * (k + 1)) (n := 12939 + 24 * (k + 1)) (by omega) (by omega) ?_
                            refine lv_istore (lv' := [(6, .int r263), (5, .int r254), (0, .ref b), (1, .ref a0), (2, .ref m0), (3, .ref o0), (4, .int x4)]) hx hb d_L_law_779 hl (by decide) rfl (fun ls hl => ?_)
                            refine lv_aload_n hx hb d_L_law_781 rfl (lv_at hl 4 rfl) ?_
                            have hPc := hP.sub (ws' := (wM m0 m1 m2 m3 m4 m5 k1 k2 k3 k4 k5 qcode_264 qfuns qmade qgreat qup qdown qsize qrows qwork qxx qpower)) [7, 8, 9, 10, 11, 12] rfl
                            have hDc := hD.sub (ws' := (wM m0 m1 m2 m3 m4 m5 k1 k2 k3 k4 k5 qcode_264 qfuns qmade qgreat qup qdown qsize qrows qwork qxx qpower)) [7, 8, 9, 10, 11, 12] (by decide) rfl
                            have hKc := hK.sub (tys' := [(k1, .int), (k2, .int), (k3, .int), (k4, .int), (k5, .int)]) [5, 6, 7, 8, 9] rfl
                            have hFc := va_free (wc := (wM m0 m1 m2 m3 m4 m5 k1 k2 k3 k4 k5 qcode_264 qfuns qmade qgreat qup qdown qsize qrows qwork qxx qpower)) hD hS hA [7, 8, 9, 10, 11, 12] rfl
                            refine va_calli (va_runV (As := []) (rest := []) ⟨hx, hb, hml, hown, hB⟩ (c_M_thrown l D m0 m1 m2 m3 m4 m5 k1 k2 k3 k4 k5 H.size qcode_264 qfuns qmade qgreat qup qdown qsize qrows qwork qxx qpower _) (cwV 0 hB (goodV wd_349 wd_350 wd_351 wd_3 wd_352) rfl rfl rfl (by decide +kernel) ⟨Nat.le_of_ble_eq_true rfl, Nat.le_of_ble_eq_true rfl⟩) ⟨pcG_blind, va_recv hKc hPc (ci := 2) (q0 := 0) rfl rfl, pcG_pre hPc hKc hDc h⟩ rfl rfl hl.1 rfl (lv_room (Nat.le_of_ble_eq_true rfl)) d_L_law_782 ⟨by show _ ≤ 601024; omega, by show _ ≤ 7293034; omega⟩) hS (fun q _ h => hFc q h) hFc (fun r265 u t H1 locs ht hvm h hBu hz1 hk1 hS => ?_)
                            obtain ⟨hP1, hK1, hD1⟩ := hBu
                            rw [ht] at hP1
                            obtain ⟨hP, hD⟩ := va_join (wr := [(o0, .inl (co, 1, .inr (.inl out_258))), (a0, .inr (1, [.ref a1, .ref a2, .ref a3, .int made_255])), (a1, .inl (c1, 5600, .inl kept_259)), (a2, .inl (c2, 80, .inl sizes_260)), (a3, .inr (0, [.ref a4, .ref a5, .int size_256, .int tooG_257])), (a4, .inl (c4, 700, .inl rows_261)), (a5, .inl (c5, 7, .inl taken_262))]) (w1 := (wM m0 m1 m2 m3 m4 m5 k1 k2 k3 k4 k5 qcode_264 qfuns qmade qgreat qup qdown qsize qrows qwork qxx qpower)) hP hD [7, 8, 9, 10, 11, 12] [0, 1, 2, 3, 4, 5, 6] rfl rfl (by decide) (by decide) hk1 hFc hP1 hD1
                            generalize H1 = H at hP hS ⊢
                            have hP : va_P D vwCl (wL o0 a0 a1 a2 a3 a4 a5 m0 m1 m2 m3 m4 m5 co c1 c2 c4 c5 k1 k2 k3 k4 k5 made_255 size_256 tooG_257 qcode_264 qfuns qmade qgreat qup qdown out_258 kept_259 sizes_260 rows_261 taken_262 qsize qrows qwork qxx qpower) H := hP.sub [0, 1, 2, 3, 4, 5, 6, 7, 8, 9, 10, 11, 12] rfl
                            have hD : va_D A (wL o0 a0 a1 a2 a3 a4 a5 m0 m1 m2 m3 m4 m5 co c1 c2 c4 c5 k1 k2 k3 k4 k5 made_255 size_256 tooG_257 qcode_264 qfuns qmade qgreat qup qdown out_258 kept_259 sizes_260 rows_261 taken_262 qsize qrows qwork qxx qpower) := hD.sub [0, 1, 2, 3, 4, 5, 6, 7, 8, 9, 10, 11, 12] (by decide) rfl
                            refine W.widen (k := 13 + 4 * (k + 1)) (n := 12939 + 24 * (k + 1)) (by omega) (by omega) ?_
                            refine lv_iload hx hb d_L_law_785 (lv_at hl 1 rfl) ?_
                            refine lv_icmp_eq (tgt := 792) hx hb d_L_law_787 (by decide) (fun hc266 => ?_) (fun hc266 => ?_)
                            · replace h := h.1 hc266
                              refine lv_iload hx hb d_L_law_792 (lv_at hl 1 rfl) ?_
                              refine lv_if_ne (tgt := 809) hx hb d_L_law_794 (by decide) (fun hc267 => ?_) (fun hc267 => ?_)
                              · replace h := h.1 hc267
                                refine lv_goto (tgt := 1227) hx hb d_L_law_809 (by decide) ?_
                                obtain ⟨x268, ex268⟩ : ∃ z : Int32, z = x4 + 4 := ⟨_, rfl⟩
                                refine lv_iinc (v := x268) (lv' := [(4, .int x268), (6, .int r263), (5, .int r254), (0, .ref b), (1, .ref a0), (2, .ref m0), (3, .ref o0)]) hx hb d_L_law_1227 hl (k := 6) rfl (by rw [ex268]; rfl) (by decide) rfl (fun ls hl => ?_)
                                refine lv_goto (tgt := 23) hx hb d_L_law_1230 (by decide) ?_
                                exact ihn (k + 1) x268 made_255 size_256 tooG_257 qcode_264 qfuns qmade qgreat qup qdown out_258 kept_259 sizes_260 rows_261 taken_262 qsize qrows qwork qxx qpower _ _ _ (by omega) (by omega) (by rw [ex268, ex4]; exact (nI_add _ 4).trans (by rw [show 4 * (k + 1) = 4 * k + 4 by omega])) h hP hD hS (lv_sub hl [3, 4, 5, 6, 0] rfl)
                              · replace h := h.2 hc267
                                refine lv_aload_n hx hb d_L_law_797 rfl (lv_at hl 5 rfl) ?_
                                refine lv_iconst (v := 0) hx hb d_L_law_798 (by decide) ?_
                                obtain ⟨g269, h⟩ := h
                                refine va_lald hx hb hK hP 0 0 rfl rfl g269 d_L_law_799 ?_
                                refine lv_iload hx hb d_L_law_800 (lv_at hl 0 rfl) ?_
                                refine lv_i2l hx hb d_L_law_802 rfl ?_
                                refine W.lcmp hx hb d_L_law_803 ?_
                                refine lv_if_eq (tgt := 809) hx hb d_L_law_804 (by decide) (fun hc270 => ?_) (fun hc270 => ?_)
                                · replace h := h.1 hc270
                                  refine lv_goto (tgt := 1227) hx hb d_L_law_809 (by decide) ?_
                                  obtain ⟨x271, ex271⟩ : ∃ z : Int32, z = x4 + 4 := ⟨_, rfl⟩
                                  refine lv_iinc (v := x271) (lv' := [(4, .int x271), (6, .int r263), (5, .int r254), (0, .ref b), (1, .ref a0), (2, .ref m0), (3, .ref o0)]) hx hb d_L_law_1227 hl (k := 6) rfl (by rw [ex271]; rfl) (by decide) rfl (fun ls hl => ?_)
                                  refine lv_goto (tgt := 23) hx hb d_L_law_1230 (by decide) ?_
                                  exact ihn (k + 1) x271 made_255 size_256 tooG_257 qcode_264 qfuns qmade qgreat qup qdown out_258 kept_259 sizes_260 rows_261 taken_262 qsize qrows qwork qxx qpower _ _ _ (by omega) (by omega) (by rw [ex271, ex4]; exact (nI_add _ 4).trans (by rw [show 4 * (k + 1) = 4 * k + 4 by omega])) h hP hD hS (lv_sub hl [3, 4, 5, 6, 0] rfl)
                                · replace h := h.2 hc270
                                  refine lv_iconst (v := 0) hx hb d_L_law_807 (by decide) ?_
                                  exact (show False from h).elim
                            · replace h := h.2 hc266
                              refine lv_iconst (v := 0) hx hb d_L_law_790 (by decide) ?_
                              exact (show False from h).elim
                          · replace h := h.2 t10
                            by_cases t11 : sw = 11
                            · replace h := h.1 t11
                              clear esw
                              subst t11
                              refine lv_tableIn (off := 773) (tgt := 812) hx hb d_L_law_39 (by decide) (by decide) (by decide +kernel) (by decide) ?_
                              refine lv_aload_n hx hb d_L_law_812 rfl (lv_at hl 1 rfl) ?_
                              refine lv_aload_n hx hb d_L_law_813 rfl (lv_at hl 0 rfl) ?_
                              refine lv_iload hx hb d_L_law_814 (lv_at hl 4 rfl) ?_
                              refine lv_iconst (v := 1) hx hb d_L_law_816 (by decide) ?_
                              refine lv_iadd hx hb d_L_law_817 ?_
                              refine va_sld hx hb hX hbl hbA hS hi1 d_L_law_818 ?_
                              rw [← es1]
                              refine lv_aload_n hx hb d_L_law_819 rfl (lv_at hl 0 rfl) ?_
                              refine lv_iload hx hb d_L_law_820 (lv_at hl 4 rfl) ?_
                              refine lv_iconst (v := 2) hx hb d_L_law_822 (by decide) ?_
                              refine lv_iadd hx hb d_L_law_823 ?_
                              refine va_sld hx hb hX hbl hbA hS hi2 d_L_law_824 ?_
                              rw [← es2]
                              refine lv_aload_n hx hb d_L_law_825 rfl (lv_at hl 3 rfl) ?_
                              have hPc := hP.sub (ws' := (wO o0 a0 a1 a2 a3 a4 a5 co c1 c2 c4 c5 made size tooG out kept sizes rows taken)) [0, 1, 2, 3, 4, 5, 6] rfl
                              have hDc := hD.sub (ws' := (wO o0 a0 a1 a2 a3 a4 a5 co c1 c2 c4 c5 made size tooG out kept sizes rows taken)) [0, 1, 2, 3, 4, 5, 6] (by decide) rfl
                              have hKc := hK.sub (tys' := [(co, .long), (c1, .int), (c2, .int), (c4, .int), (c5, .int)]) [0, 1, 2, 3, 4] rfl
                              have hFc := va_free (wc := (wO o0 a0 a1 a2 a3 a4 a5 co c1 c2 c4 c5 made size tooG out kept sizes rows taken)) hD hS hA [0, 1, 2, 3, 4, 5, 6] rfl
                              refine va_calli (vx_runSW (As := [.ref a0, .int s1, .int s2, .ref o0]) (rest := []) ⟨hx, hb, hml, hown, hB⟩ (c_L_value l D o0 a0 a1 a2 a3 a4 a5 co c1 c2 c4 c5 H.size made size tooG out kept sizes rows taken s1 s2 _ hst) (vx_cwSW 4 hB (goodSW wd_282 wd_283 wd_0 wd_284) rfl rfl rfl (by decide +kernel) ⟨Nat.le_of_ble_eq_true rfl, Nat.le_of_ble_eq_true rfl⟩) ⟨pcH_blind, pcH_pre hPc hKc hDc hS hXH hFc h⟩ rfl rfl hl.1 rfl (lv_room (Nat.le_of_ble_eq_true rfl)) d_L_law_826 ⟨by show _ ≤ 601024; omega, by show _ ≤ 7293034; omega⟩) hS (fun q _ h => hFc q h) hFc (fun r272 u t H1 locs ht hvm h hBu hz1 hk1 hS => ?_)
                              obtain ⟨made_273, size_274, tooG_275, out_276, kept_277, sizes_278, rows_279, taken_280⟩ := u
                              obtain ⟨hP1, hK1, hD1⟩ := hBu
                              rw [ht] at hP1
                              obtain ⟨hP, hD⟩ := va_join (wr := [(m0, .inr (2, [.int qcode, .int qfuns, .ref m1, .ref m2, .int qmade, .ref m3, .int qgreat, .ref m4, .ref m5, .long qup, .long qdown])), (m1, .inl (k1, 80, .inl qsize)), (m2, .inl (k2, 5600, .inl qrows)), (m3, .inl (k3, 840, .inl qwork)), (m4, .inl (k4, 7, .inl qxx)), (m5, .inl (k5, 5, .inl qpower))]) (w1 := (wO o0 a0 a1 a2 a3 a4 a5 co c1 c2 c4 c5 made_273 size_274 tooG_275 out_276 kept_277 sizes_278 rows_279 taken_280)) hP hD [0, 1, 2, 3, 4, 5, 6] [7, 8, 9, 10, 11, 12] rfl rfl (by decide) (by decide) hk1 hFc hP1 hD1
                              generalize H1 = H at hP hS ⊢
                              have hP : va_P D vwCl (wL o0 a0 a1 a2 a3 a4 a5 m0 m1 m2 m3 m4 m5 co c1 c2 c4 c5 k1 k2 k3 k4 k5 made_273 size_274 tooG_275 qcode qfuns qmade qgreat qup qdown out_276 kept_277 sizes_278 rows_279 taken_280 qsize qrows qwork qxx qpower) H := hP.sub [6, 7, 8, 9, 10, 11, 12, 0, 1, 2, 3, 4, 5] rfl
                              have hD : va_D A (wL o0 a0 a1 a2 a3 a4 a5 m0 m1 m2 m3 m4 m5 co c1 c2 c4 c5 k1 k2 k3 k4 k5 made_273 size_274 tooG_275 qcode qfuns qmade qgreat qup qdown out_276 kept_277 sizes_278 rows_279 taken_280 qsize qrows qwork qxx qpower) := hD.sub [6, 7, 8, 9, 10, 11, 12, 0, 1, 2, 3, 4, 5] (by decide) rfl
                              refine W.widen (k := 13 + 4 * (k + 1)) (n := 12939 + 24 * (k + 1)) (by omega) (by omega) ?_
                              refine lv_istore (lv' := [(5, .int r272), (0, .ref b), (1, .ref a0), (2, .ref m0), (3, .ref o0), (4, .int x4)]) hx hb d_L_law_829 hl (by decide) rfl (fun ls hl => ?_)
                              refine lv_aload_n hx hb d_L_law_831 rfl (lv_at hl 3 rfl) ?_
                              refine lv_aload_n hx hb d_L_law_832 rfl (lv_at hl 1 rfl) ?_
                              refine lv_iload hx hb d_L_law_833 (lv_at hl 5 rfl) ?_
                              refine lv_iconst (v := 1) hx hb d_L_law_835 (by decide) ?_
                              refine lv_iadd hx hb d_L_law_836 ?_
                              refine va_sld hx hb hX hbl hbA hS hi1 d_L_law_837 ?_
                              rw [← es1]
                              refine lv_aload_n hx hb d_L_law_838 rfl (lv_at hl 1 rfl) ?_
                              refine lv_iload hx hb d_L_law_839 (lv_at hl 5 rfl) ?_
                              refine lv_iconst (v := 2) hx hb d_L_law_841 (by decide) ?_
                              refine lv_iadd hx hb d_L_law_842 ?_
                              refine va_sld hx hb hX hbl hbA hS hi2 d_L_law_843 ?_
                              rw [← es2]
                              have hPc := hP.sub (ws' := (wM m0 m1 m2 m3 m4 m5 k1 k2 k3 k4 k5 qcode qfuns qmade qgreat qup qdown qsize qrows qwork qxx qpower)) [7, 8, 9, 10, 11, 12] rfl
                              have hDc := hD.sub (ws' := (wM m0 m1 m2 m3 m4 m5 k1 k2 k3 k4 k5 qcode qfuns qmade qgreat qup qdown qsize qrows qwork qxx qpower)) [7, 8, 9, 10, 11, 12] (by decide) rfl
                              have hKc := hK.sub (tys' := [(k1, .int), (k2, .int), (k3, .int), (k4, .int), (k5, .int)]) [5, 6, 7, 8, 9] rfl
                              have hFc := va_free (wc := (wM m0 m1 m2 m3 m4 m5 k1 k2 k3 k4 k5 qcode qfuns qmade qgreat qup qdown qsize qrows qwork qxx qpower)) hD hS hA [7, 8, 9, 10, 11, 12] rfl
                              refine va_calli (va_runV (As := [.int s1, .int s2]) (rest := []) ⟨hx, hb, hml, hown, hB⟩ (c_M_value l D m0 m1 m2 m3 m4 m5 k1 k2 k3 k4 k5 H.size qcode qfuns qmade qgreat qup qdown qsize qrows qwork qxx qpower s1 s2 _) (cwV 2 hB (goodV wd_461 wd_462 wd_463 wd_3 wd_464) rfl rfl rfl (by decide +kernel) ⟨Nat.le_of_ble_eq_true rfl, Nat.le_of_ble_eq_true rfl⟩) ⟨pcG_blind, va_recv hKc hPc (ci := 2) (q0 := 0) rfl rfl, pcG_pre hPc hKc hDc h⟩ rfl rfl hl.1 rfl (lv_room (Nat.le_of_ble_eq_true rfl)) d_L_law_844 ⟨by show _ ≤ 601024; omega, by show _ ≤ 7293034; omega⟩) hS (fun q _ h => hFc q h) hFc (fun r281 qcode_282 t H1 locs ht hvm h hBu hz1 hk1 hS => ?_)
                              obtain ⟨hP1, hK1, hD1⟩ := hBu
                              rw [ht] at hP1
                              obtain ⟨hP, hD⟩ := va_join (wr := [(o0, .inl (co, 1, .inr (.inl out_276))), (a0, .inr (1, [.ref a1, .ref a2, .ref a3, .int made_273])), (a1, .inl (c1, 5600, .inl kept_277)), (a2, .inl (c2, 80, .inl sizes_278)), (a3, .inr (0, [.ref a4, .ref a5, .int size_274, .int tooG_275])), (a4, .inl (c4, 700, .inl rows_279)), (a5, .inl (c5, 7, .inl taken_280))]) (w1 := (wM m0 m1 m2 m3 m4 m5 k1 k2 k3 k4 k5 qcode_282 qfuns qmade qgreat qup qdown qsize qrows qwork qxx qpower)) hP hD [7, 8, 9, 10, 11, 12] [0, 1, 2, 3, 4, 5, 6] rfl rfl (by decide) (by decide) hk1 hFc hP1 hD1
                              generalize H1 = H at hP hS ⊢
                              have hP : va_P D vwCl (wL o0 a0 a1 a2 a3 a4 a5 m0 m1 m2 m3 m4 m5 co c1 c2 c4 c5 k1 k2 k3 k4 k5 made_273 size_274 tooG_275 qcode_282 qfuns qmade qgreat qup qdown out_276 kept_277 sizes_278 rows_279 taken_280 qsize qrows qwork qxx qpower) H := hP.sub [0, 1, 2, 3, 4, 5, 6, 7, 8, 9, 10, 11, 12] rfl
                              have hD : va_D A (wL o0 a0 a1 a2 a3 a4 a5 m0 m1 m2 m3 m4 m5 co c1 c2 c4 c5 k1 k2 k3 k4 k5 made_273 size_274 tooG_275 qcode_282 qfuns qmade qgreat qup qdown out_276 kept_277 sizes_278 rows_279 taken_280 qsize qrows qwork qxx qpower) := hD.sub [0, 1, 2, 3, 4, 5, 6, 7, 8, 9, 10, 11, 12] (by decide) rfl
                              refine W.widen (k := 13 + 4 * (k + 1)) (n := 12939 + 24 * (k + 1)) (by omega) (by omega) ?_
                              refine lv_istore (lv' := [(6, .int r281), (5, .int r272), (0, .ref b), (1, .ref a0), (2, .ref m0), (3, .ref o0), (4, .int x4)]) hx hb d_L_law_847 hl (by decide) rfl (fun ls hl => ?_)
                              refine lv_aload_n hx hb d_L_law_849 rfl (lv_at hl 4 rfl) ?_
                              have hPc := hP.sub (ws' := (wM m0 m1 m2 m3 m4 m5 k1 k2 k3 k4 k5 qcode_282 qfuns qmade qgreat qup qdown qsize qrows qwork qxx qpower)) [7, 8, 9, 10, 11, 12] rfl
                              have hDc := hD.sub (ws' := (wM m0 m1 m2 m3 m4 m5 k1 k2 k3 k4 k5 qcode_282 qfuns qmade qgreat qup qdown qsize qrows qwork qxx qpower)) [7, 8, 9, 10, 11, 12] (by decide) rfl
                              have hKc := hK.sub (tys' := [(k1, .int), (k2, .int), (k3, .int), (k4, .int), (k5, .int)]) [5, 6, 7, 8, 9] rfl
                              have hFc := va_free (wc := (wM m0 m1 m2 m3 m4 m5 k1 k2 k3 k4 k5 qcode_282 qfuns qmade qgreat qup qdown qsize qrows qwork qxx qpower)) hD hS hA [7, 8, 9, 10, 11, 12] rfl
                              refine va_calli (va_runV (As := []) (rest := []) ⟨hx, hb, hml, hown, hB⟩ (c_M_thrown l D m0 m1 m2 m3 m4 m5 k1 k2 k3 k4 k5 H.size qcode_282 qfuns qmade qgreat qup qdown qsize qrows qwork qxx qpower _) (cwV 0 hB (goodV wd_349 wd_350 wd_351 wd_3 wd_352) rfl rfl rfl (by decide +kernel) ⟨Nat.le_of_ble_eq_true rfl, Nat.le_of_ble_eq_true rfl⟩) ⟨pcG_blind, va_recv hKc hPc (ci := 2) (q0 := 0) rfl rfl, pcG_pre hPc hKc hDc h⟩ rfl rfl hl.1 rfl (lv_room (Nat.le_of_ble_eq_true rfl)) d_L_law_850 ⟨by show _ ≤ 601024; omega, by show _ ≤ 7293034; omega⟩) hS (fun q _ h => hFc q h) hFc (fun r283 u t H1 locs ht hvm h hBu hz1 hk1 hS => ?_)
                              obtain ⟨hP1, hK1, hD1⟩ := hBu
                              rw [ht] at hP1
                              obtain ⟨hP, hD⟩ := va_join (wr := [(o0, .inl (co, 1, .inr (.inl out_276))), (a0, .inr (1, [.ref a1, .ref a2, .ref a3, .int made_273])), (a1, .inl (c1, 5600, .inl kept_277)), (a2, .inl (c2, 80, .inl sizes_278)), (a3, .inr (0, [.ref a4, .ref a5, .int size_274, .int tooG_275])), (a4, .inl (c4, 700, .inl rows_279)), (a5, .inl (c5, 7, .inl taken_280))]) (w1 := (wM m0 m1 m2 m3 m4 m5 k1 k2 k3 k4 k5 qcode_282 qfuns qmade qgreat qup qdown qsize qrows qwork qxx qpower)) hP hD [7, 8, 9, 10, 11, 12] [0, 1, 2, 3, 4, 5, 6] rfl rfl (by decide) (by decide) hk1 hFc hP1 hD1
                              generalize H1 = H at hP hS ⊢
                              have hP : va_P D vwCl (wL o0 a0 a1 a2 a3 a4 a5 m0 m1 m2 m3 m4 m5 co c1 c2 c4 c5 k1 k2 k3 k4 k5 made_273 size_274 tooG_275 qcode_282 qfuns qmade qgreat qup qdown out_276 kept_277 sizes_278 rows_279 taken_280 qsize qrows qwork qxx qpower) H := hP.sub [0, 1, 2, 3, 4, 5, 6, 7, 8, 9, 10, 11, 12] rfl
                              have hD : va_D A (wL o0 a0 a1 a2 a3 a4 a5 m0 m1 m2 m3 m4 m5 co c1 c2 c4 c5 k1 k2 k3 k4 k5 made_273 size_274 tooG_275 qcode_282 qfuns qmade qgreat qup qdown out_276 kept_277 sizes_278 rows_279 taken_280 qsize qrows qwork qxx qpower) := hD.sub [0, 1, 2, 3, 4, 5, 6, 7, 8, 9, 10, 11, 12] (by decide) rfl
                              refine W.widen (k := 13 + 4 * (k + 1)) (n := 12939 + 24 * (k + 1)) (by omega) (by omega) ?_
                              refine lv_iload hx hb d_L_law_853 (lv_at hl 1 rfl) ?_
                              refine lv_icmp_eq (tgt := 860) hx hb d_L_law_855 (by decide) (fun hc284 => ?_) (fun hc284 => ?_)
                              · replace h := h.1 hc284
                                refine lv_iload hx hb d_L_law_860 (lv_at hl 1 rfl) ?_
                                refine lv_if_ne (tgt := 877) hx hb d_L_law_862 (by decide) (fun hc285 => ?_) (fun hc285 => ?_)
                                · replace h := h.1 hc285
                                  refine lv_goto (tgt := 1227) hx hb d_L_law_877 (by decide) ?_
                                  obtain ⟨x286, ex286⟩ : ∃ z : Int32, z = x4 + 4 := ⟨_, rfl⟩
                                  refine lv_iinc (v := x286) (lv' := [(4, .int x286), (6, .int r281), (5, .int r272), (0, .ref b), (1, .ref a0), (2, .ref m0), (3, .ref o0)]) hx hb d_L_law_1227 hl (k := 6) rfl (by rw [ex286]; rfl) (by decide) rfl (fun ls hl => ?_)
                                  refine lv_goto (tgt := 23) hx hb d_L_law_1230 (by decide) ?_
                                  exact ihn (k + 1) x286 made_273 size_274 tooG_275 qcode_282 qfuns qmade qgreat qup qdown out_276 kept_277 sizes_278 rows_279 taken_280 qsize qrows qwork qxx qpower _ _ _ (by omega) (by omega) (by rw [ex286, ex4]; exact (nI_add _ 4).trans (by rw [show 4 * (k + 1) = 4 * k + 4 by omega])) h hP hD hS (lv_sub hl [3, 4, 5, 6, 0] rfl)
                                · replace h := h.2 hc285
                                  refine lv_aload_n hx hb d_L_law_865 rfl (lv_at hl 5 rfl) ?_
                                  refine lv_iconst (v := 0) hx hb d_L_law_866 (by decide) ?_
                                  obtain ⟨g287, h⟩ := h
                                  refine va_lald hx hb hK hP 0 0 rfl rfl g287 d_L_law_867 ?_
                                  refine lv_iload hx hb d_L_law_868 (lv_at hl 0 rfl) ?_
                                  refine lv_i2l hx hb d_L_law_870 rfl ?_
                                  refine W.lcmp hx hb d_L_law_871 ?_
                                  refine lv_if_eq (tgt := 877) hx hb d_L_law_872 (by decide) (fun hc288 => ?_) (fun hc288 => ?_)
                                  · replace h := h.1 hc288
                                    refine lv_goto (tgt := 1227) hx hb d_L_law_877 (by decide) ?_
                                    obtain ⟨x289, ex289⟩ : ∃ z : Int32, z = x4 + 4 := ⟨_, rfl⟩
                                    refine lv_iinc (v := x289) (lv' := [(4, .int x289), (6, .int r281), (5, .int r272), (0, .ref b), (1, .ref a0), (2, .ref m0), (3, .ref o0)]) hx hb d_L_law_1227 hl (k := 6) rfl (by rw [ex289]; rfl) (by decide) rfl (fun ls hl => ?_)
                                    refine lv_goto (tgt := 23) hx hb d_L_law_1230 (by decide) ?_
                                    exact ihn (k + 1) x289 made_273 size_274 tooG_275 qcode_282 qfuns qmade qgreat qup qdown out_276 kept_277 sizes_278 rows_279 taken_280 qsize qrows qwork qxx qpower _ _ _ (by omega) (by omega) (by rw [ex289, ex4]; exact (nI_add _ 4).trans (by rw [show 4 * (k + 1) = 4 * k + 4 by omega])) h hP hD hS (lv_sub hl [3, 4, 5, 6, 0] rfl)
                                  · replace h := h.2 hc288
                                    refine lv_iconst (v := 0) hx hb d_L_law_875 (by decide) ?_
                                    exact (show False from h).elim
                              · replace h := h.2 hc284
                                refine lv_iconst (v := 0) hx hb d_L_law_858 (by decide) ?_
                                exact (show False from h).elim
                            · replace h := h.2 t11
                              by_cases t12 : sw = 12
                              · replace h := h.1 t12
                                clear esw
                                subst t12
                                refine lv_tableIn (off := 841) (tgt := 880) hx hb d_L_law_39 (by decide) (by decide) (by decide +kernel) (by decide) ?_
                                refine lv_aload_n hx hb d_L_law_880 rfl (lv_at hl 1 rfl) ?_
                                refine lv_aload_n hx hb d_L_law_881 rfl (lv_at hl 0 rfl) ?_
                                refine lv_iload hx hb d_L_law_882 (lv_at hl 4 rfl) ?_
                                refine lv_iconst (v := 1) hx hb d_L_law_884 (by decide) ?_
                                refine lv_iadd hx hb d_L_law_885 ?_
                                refine va_sld hx hb hX hbl hbA hS hi1 d_L_law_886 ?_
                                rw [← es1]
                                refine lv_aload_n hx hb d_L_law_887 rfl (lv_at hl 0 rfl) ?_
                                refine lv_iload hx hb d_L_law_888 (lv_at hl 4 rfl) ?_
                                refine lv_iconst (v := 2) hx hb d_L_law_890 (by decide) ?_
                                refine lv_iadd hx hb d_L_law_891 ?_
                                refine va_sld hx hb hX hbl hbA hS hi2 d_L_law_892 ?_
                                rw [← es2]
                                refine lv_aload_n hx hb d_L_law_893 rfl (lv_at hl 3 rfl) ?_
                                have hPc := hP.sub (ws' := (wO o0 a0 a1 a2 a3 a4 a5 co c1 c2 c4 c5 made size tooG out kept sizes rows taken)) [0, 1, 2, 3, 4, 5, 6] rfl
                                have hDc := hD.sub (ws' := (wO o0 a0 a1 a2 a3 a4 a5 co c1 c2 c4 c5 made size tooG out kept sizes rows taken)) [0, 1, 2, 3, 4, 5, 6] (by decide) rfl
                                have hKc := hK.sub (tys' := [(co, .long), (c1, .int), (c2, .int), (c4, .int), (c5, .int)]) [0, 1, 2, 3, 4] rfl
                                have hFc := va_free (wc := (wO o0 a0 a1 a2 a3 a4 a5 co c1 c2 c4 c5 made size tooG out kept sizes rows taken)) hD hS hA [0, 1, 2, 3, 4, 5, 6] rfl
                                refine va_calli (vx_runSW (As := [.ref a0, .int s1, .int s2, .ref o0]) (rest := []) ⟨hx, hb, hml, hown, hB⟩ (c_L_compare l D o0 a0 a1 a2 a3 a4 a5 co c1 c2 c4 c5 H.size made size tooG out kept sizes rows taken s1 s2 _ hst) (vx_cwSW 4 hB (goodSW wd_292 wd_293 wd_0 wd_294) rfl rfl rfl (by decide +kernel) ⟨Nat.le_of_ble_eq_true rfl, Nat.le_of_ble_eq_true rfl⟩) ⟨pcH_blind, pcH_pre hPc hKc hDc hS hXH hFc h⟩ rfl rfl hl.1 rfl (lv_room (Nat.le_of_ble_eq_true rfl)) d_L_law_894 ⟨by show _ ≤ 601024; omega, by show _ ≤ 7293034; omega⟩) hS (fun q _ h => hFc q h) hFc (fun r290 u t H1 locs ht hvm h hBu hz1 hk1 hS => ?_)
                                obtain ⟨made_291, size_292, tooG_293, out_294, kept_295, sizes_296, rows_297, taken_298⟩ := u
                                obtain ⟨hP1, hK1, hD1⟩ := hBu
                                rw [ht] at hP1
                                obtain ⟨hP, hD⟩ := va_join (wr := [(m0, .inr (2, [.int qcode, .int qfuns, .ref m1, .ref m2, .int qmade, .ref m3, .int qgreat, .ref m4, .ref m5, .long qup, .long qdown])), (m1, .inl (k1, 80, .inl qsize)), (m2, .inl (k2, 5600, .inl qrows)), (m3, .inl (k3, 840, .inl qwork)), (m4, .inl (k4, 7, .inl qxx)), (m5, .inl (k5, 5, .inl qpower))]) (w1 := (wO o0 a0 a1 a2 a3 a4 a5 co c1 c2 c4 c5 made_291 size_292 tooG_293 out_294 kept_295 sizes_296 rows_297 taken_298)) hP hD [0, 1, 2, 3, 4, 5, 6] [7, 8, 9, 10, 11, 12] rfl rfl (by decide) (by decide) hk1 hFc hP1 hD1
                                generalize H1 = H at hP hS ⊢
                                have hP : va_P D vwCl (wL o0 a0 a1 a2 a3 a4 a5 m0 m1 m2 m3 m4 m5 co c1 c2 c4 c5 k1 k2 k3 k4 k5 made_291 size_292 tooG_293 qcode qfuns qmade qgreat qup qdown out_294 kept_295 sizes_296 rows_297 taken_298 qsize qrows qwork qxx qpower) H := hP.sub [6, 7, 8, 9, 10, 11, 12, 0, 1, 2, 3, 4, 5] rfl
                                have hD : va_D A (wL o0 a0 a1 a2 a3 a4 a5 m0 m1 m2 m3 m4 m5 co c1 c2 c4 c5 k1 k2 k3 k4 k5 made_291 size_292 tooG_293 qcode qfuns qmade qgreat qup qdown out_294 kept_295 sizes_296 rows_297 taken_298 qsize qrows qwork qxx qpower) := hD.sub [6, 7, 8, 9, 10, 11, 12, 0, 1, 2, 3, 4, 5] (by decide) rfl
                                refine W.widen (k := 13 + 4 * (k + 1)) (n := 12939 + 24 * (k + 1)) (by omega) (by omega) ?_
                                refine lv_istore (lv' := [(5, .int r290), (0, .ref b), (1, .ref a0), (2, .ref m0), (3, .ref o0), (4, .int x4)]) hx hb d_L_law_897 hl (by decide) rfl (fun ls hl => ?_)
                                refine lv_aload_n hx hb d_L_law_899 rfl (lv_at hl 3 rfl) ?_
                                refine lv_aload_n hx hb d_L_law_900 rfl (lv_at hl 1 rfl) ?_
                                refine lv_iload hx hb d_L_law_901 (lv_at hl 5 rfl) ?_
                                refine lv_iconst (v := 1) hx hb d_L_law_903 (by decide) ?_
                                refine lv_iadd hx hb d_L_law_904 ?_
                                refine va_sld hx hb hX hbl hbA hS hi1 d_L_law_905 ?_
                                rw [← es1]
                                refine lv_aload_n hx hb d_L_law_906 rfl (lv_at hl 1 rfl) ?_
                                refine lv_iload hx hb d_L_law_907 (lv_at hl 5 rfl) ?_
                                refine lv_iconst (v := 2) hx hb d_L_law_909 (by decide) ?_
                                refine lv_iadd hx hb d_L_law_910 ?_
                                refine va_sld hx hb hX hbl hbA hS hi2 d_L_law_911 ?_
                                rw [← es2]
                                have hPc := hP.sub (ws' := (wM m0 m1 m2 m3 m4 m5 k1 k2 k3 k4 k5 qcode qfuns qmade qgreat qup qdown qsize qrows qwork qxx qpower)) [7, 8, 9, 10, 11, 12] rfl
                                have hDc := hD.sub (ws' := (wM m0 m1 m2 m3 m4 m5 k1 k2 k3 k4 k5 qcode qfuns qmade qgreat qup qdown qsize qrows qwork qxx qpower)) [7, 8, 9, 10, 11, 12] (by decide) rfl
                                have hKc := hK.sub (tys' := [(k1, .int), (k2, .int), (k3, .int), (k4, .int), (k5, .int)]) [5, 6, 7, 8, 9] rfl
                                have hFc := va_free (wc := (wM m0 m1 m2 m3 m4 m5 k1 k2 k3 k4 k5 qcode qfuns qmade qgreat qup qdown qsize qrows qwork qxx qpower)) hD hS hA [7, 8, 9, 10, 11, 12] rfl
                                refine va_calli (va_runV (As := [.int s1, .int s2]) (rest := []) ⟨hx, hb, hml, hown, hB⟩ (c_M_compare l D m0 m1 m2 m3 m4 m5 k1 k2 k3 k4 k5 H.size qcode qfuns qmade qgreat qup qdown qsize qrows qwork qxx qpower s1 s2 _) (cwV 2 hB (goodV wd_465 wd_466 wd_467 wd_3 wd_468) rfl rfl rfl (by decide +kernel) ⟨Nat.le_of_ble_eq_true rfl, Nat.le_of_ble_eq_true rfl⟩) ⟨pcG_blind, va_recv hKc hPc (ci := 2) (q0 := 0) rfl rfl, pcG_pre hPc hKc hDc h⟩ rfl rfl hl.1 rfl (lv_room (Nat.le_of_ble_eq_true rfl)) d_L_law_912 ⟨by show _ ≤ 601024; omega, by show _ ≤ 7293034; omega⟩) hS (fun q _ h => hFc q h) hFc (fun r299 qcode_300 t H1 locs ht hvm h hBu hz1 hk1 hS => ?_)
                                obtain ⟨hP1, hK1, hD1⟩ := hBu
                                rw [ht] at hP1
                                obtain ⟨hP, hD⟩ := va_join (wr := [(o0, .inl (co, 1, .inr (.inl out_294))), (a0, .inr (1, [.ref a1, .ref a2, .ref a3, .int made_291])), (a1, .inl (c1, 5600, .inl kept_295)), (a2, .inl (c2, 80, .inl sizes_296)), (a3, .inr (0, [.ref a4, .ref a5, .int size_292, .int tooG_293])), (a4, .inl (c4, 700, .inl rows_297)), (a5, .inl (c5, 7, .inl taken_298))]) (w1 := (wM m0 m1 m2 m3 m4 m5 k1 k2 k3 k4 k5 qcode_300 qfuns qmade qgreat qup qdown qsize qrows qwork qxx qpower)) hP hD [7, 8, 9, 10, 11, 12] [0, 1, 2, 3, 4, 5, 6] rfl rfl (by decide) (by decide) hk1 hFc hP1 hD1
                                generalize H1 = H at hP hS ⊢
                                have hP : va_P D vwCl (wL o0 a0 a1 a2 a3 a4 a5 m0 m1 m2 m3 m4 m5 co c1 c2 c4 c5 k1 k2 k3 k4 k5 made_291 size_292 tooG_293 qcode_300 qfuns qmade qgreat qup qdown out_294 kept_295 sizes_296 rows_297 taken_298 qsize qrows qwork qxx qpower) H := hP.sub [0, 1, 2, 3, 4, 5, 6, 7, 8, 9, 10, 11, 12] rfl
                                have hD : va_D A (wL o0 a0 a1 a2 a3 a4 a5 m0 m1 m2 m3 m4 m5 co c1 c2 c4 c5 k1 k2 k3 k4 k5 made_291 size_292 tooG_293 qcode_300 qfuns qmade qgreat qup qdown out_294 kept_295 sizes_296 rows_297 taken_298 qsize qrows qwork qxx qpower) := hD.sub [0, 1, 2, 3, 4, 5, 6, 7, 8, 9, 10, 11, 12] (by decide) rfl
                                refine W.widen (k := 13 + 4 * (k + 1)) (n := 12939 + 24 * (k + 1)) (by omega) (by omega) ?_
                                refine lv_istore (lv' := [(6, .int r299), (5, .int r290), (0, .ref b), (1, .ref a0), (2, .ref m0), (3, .ref o0), (4, .int x4)]) hx hb d_L_law_915 hl (by decide) rfl (fun ls hl => ?_)
                                refine lv_aload_n hx hb d_L_law_917 rfl (lv_at hl 4 rfl) ?_
                                have hPc := hP.sub (ws' := (wM m0 m1 m2 m3 m4 m5 k1 k2 k3 k4 k5 qcode_300 qfuns qmade qgreat qup qdown qsize qrows qwork qxx qpower)) [7, 8, 9, 10, 11, 12] rfl
                                have hDc := hD.sub (ws' := (wM m0 m1 m2 m3 m4 m5 k1 k2 k3 k4 k5 qcode_300 qfuns qmade qgreat qup qdown qsize qrows qwork qxx qpower)) [7, 8, 9, 10, 11, 12] (by decide) rfl
                                have hKc := hK.sub (tys' := [(k1, .int), (k2, .int), (k3, .int), (k4, .int), (k5, .int)]) [5, 6, 7, 8, 9] rfl
                                have hFc := va_free (wc := (wM m0 m1 m2 m3 m4 m5 k1 k2 k3 k4 k5 qcode_300 qfuns qmade qgreat qup qdown qsize qrows qwork qxx qpower)) hD hS hA [7, 8, 9, 10, 11, 12] rfl
                                refine va_calli (va_runV (As := []) (rest := []) ⟨hx, hb, hml, hown, hB⟩ (c_M_thrown l D m0 m1 m2 m3 m4 m5 k1 k2 k3 k4 k5 H.size qcode_300 qfuns qmade qgreat qup qdown qsize qrows qwork qxx qpower _) (cwV 0 hB (goodV wd_349 wd_350 wd_351 wd_3 wd_352) rfl rfl rfl (by decide +kernel) ⟨Nat.le_of_ble_eq_true rfl, Nat.le_of_ble_eq_true rfl⟩) ⟨pcG_blind, va_recv hKc hPc (ci := 2) (q0 := 0) rfl rfl, pcG_pre hPc hKc hDc h⟩ rfl rfl hl.1 rfl (lv_room (Nat.le_of_ble_eq_true rfl)) d_L_law_918 ⟨by show _ ≤ 601024; omega, by show _ ≤ 7293034; omega⟩) hS (fun q _ h => hFc q h) hFc (fun r301 u t H1 locs ht hvm h hBu hz1 hk1 hS => ?_)
                                obtain ⟨hP1, hK1, hD1⟩ := hBu
                                rw [ht] at hP1
                                obtain ⟨hP, hD⟩ := va_join (wr := [(o0, .inl (co, 1, .inr (.inl out_294))), (a0, .inr (1, [.ref a1, .ref a2, .ref a3, .int made_291])), (a1, .inl (c1, 5600, .inl kept_295)), (a2, .inl (c2, 80, .inl sizes_296)), (a3, .inr (0, [.ref a4, .ref a5, .int size_292, .int tooG_293])), (a4, .inl (c4, 700, .inl rows_297)), (a5, .inl (c5, 7, .inl taken_298))]) (w1 := (wM m0 m1 m2 m3 m4 m5 k1 k2 k3 k4 k5 qcode_300 qfuns qmade qgreat qup qdown qsize qrows qwork qxx qpower)) hP hD [7, 8, 9, 10, 11, 12] [0, 1, 2, 3, 4, 5, 6] rfl rfl (by decide) (by decide) hk1 hFc hP1 hD1
                                generalize H1 = H at hP hS ⊢
                                have hP : va_P D vwCl (wL o0 a0 a1 a2 a3 a4 a5 m0 m1 m2 m3 m4 m5 co c1 c2 c4 c5 k1 k2 k3 k4 k5 made_291 size_292 tooG_293 qcode_300 qfuns qmade qgreat qup qdown out_294 kept_295 sizes_296 rows_297 taken_298 qsize qrows qwork qxx qpower) H := hP.sub [0, 1, 2, 3, 4, 5, 6, 7, 8, 9, 10, 11, 12] rfl
                                have hD : va_D A (wL o0 a0 a1 a2 a3 a4 a5 m0 m1 m2 m3 m4 m5 co c1 c2 c4 c5 k1 k2 k3 k4 k5 made_291 size_292 tooG_293 qcode_300 qfuns qmade qgreat qup qdown out_294 kept_295 sizes_296 rows_297 taken_298 qsize qrows qwork qxx qpower) := hD.sub [0, 1, 2, 3, 4, 5, 6, 7, 8, 9, 10, 11, 12] (by decide) rfl
                                refine W.widen (k := 13 + 4 * (k + 1)) (n := 12939 + 24 * (k + 1)) (by omega) (by omega) ?_
                                refine lv_iload hx hb d_L_law_921 (lv_at hl 1 rfl) ?_
                                refine lv_icmp_eq (tgt := 928) hx hb d_L_law_923 (by decide) (fun hc302 => ?_) (fun hc302 => ?_)
                                · replace h := h.1 hc302
                                  refine lv_iload hx hb d_L_law_928 (lv_at hl 1 rfl) ?_
                                  refine lv_if_ne (tgt := 945) hx hb d_L_law_930 (by decide) (fun hc303 => ?_) (fun hc303 => ?_)
                                  · replace h := h.1 hc303
                                    refine lv_goto (tgt := 1227) hx hb d_L_law_945 (by decide) ?_
                                    obtain ⟨x304, ex304⟩ : ∃ z : Int32, z = x4 + 4 := ⟨_, rfl⟩
                                    refine lv_iinc (v := x304) (lv' := [(4, .int x304), (6, .int r299), (5, .int r290), (0, .ref b), (1, .ref a0), (2, .ref m0), (3, .ref o0)]) hx hb d_L_law_1227 hl (k := 6) rfl (by rw [ex304]; rfl) (by decide) rfl (fun ls hl => ?_)
                                    refine lv_goto (tgt := 23) hx hb d_L_law_1230 (by decide) ?_
                                    exact ihn (k + 1) x304 made_291 size_292 tooG_293 qcode_300 qfuns qmade qgreat qup qdown out_294 kept_295 sizes_296 rows_297 taken_298 qsize qrows qwork qxx qpower _ _ _ (by omega) (by omega) (by rw [ex304, ex4]; exact (nI_add _ 4).trans (by rw [show 4 * (k + 1) = 4 * k + 4 by omega])) h hP hD hS (lv_sub hl [3, 4, 5, 6, 0] rfl)
                                  · replace h := h.2 hc303
                                    refine lv_aload_n hx hb d_L_law_933 rfl (lv_at hl 5 rfl) ?_
                                    refine lv_iconst (v := 0) hx hb d_L_law_934 (by decide) ?_
                                    obtain ⟨g305, h⟩ := h
                                    refine va_lald hx hb hK hP 0 0 rfl rfl g305 d_L_law_935 ?_
                                    refine lv_iload hx hb d_L_law_936 (lv_at hl 0 rfl) ?_
                                    refine lv_i2l hx hb d_L_law_938 rfl ?_
                                    refine W.lcmp hx hb d_L_law_939 ?_
                                    refine lv_if_eq (tgt := 945) hx hb d_L_law_940 (by decide) (fun hc306 => ?_) (fun hc306 => ?_)
                                    · replace h := h.1 hc306
                                      refine lv_goto (tgt := 1227) hx hb d_L_law_945 (by decide) ?_
                                      obtain ⟨x307, ex307⟩ : ∃ z : Int32, z = x4 + 4 := ⟨_, rfl⟩
                                      refine lv_iinc (v := x307) (lv' := [(4, .int x307), (6, .int r299), (5, .int r290), (0, .ref b), (1, .ref a0), (2, .ref m0), (3, .ref o0)]) hx hb d_L_law_1227 hl (k := 6) rfl (by rw [ex307]; rfl) (by decide) rfl (fun ls hl => ?_)
                                      refine lv_goto (tgt := 23) hx hb d_L_law_1230 (by decide) ?_
                                      exact ihn (k + 1) x307 made_291 size_292 tooG_293 qcode_300 qfuns qmade qgreat qup qdown out_294 kept_295 sizes_296 rows_297 taken_298 qsize qrows qwork qxx qpower _ _ _ (by omega) (by omega) (by rw [ex307, ex4]; exact (nI_add _ 4).trans (by rw [show 4 * (k + 1) = 4 * k + 4 by omega])) h hP hD hS (lv_sub hl [3, 4, 5, 6, 0] rfl)
                                    · replace h := h.2 hc306
                                      refine lv_iconst (v := 0) hx hb d_L_law_943 (by decide) ?_
                                      exact (show False from h).elim
                                · replace h := h.2 hc302
                                  refine lv_iconst (v := 0) hx hb d_L_law_926 (by decide) ?_
                                  exact (show False from h).elim
                              · replace h := h.2 t12
                                by_cases t13 : sw = 13
                                · replace h := h.1 t13
                                  clear esw
                                  subst t13
                                  refine lv_tableIn (off := 909) (tgt := 948) hx hb d_L_law_39 (by decide) (by decide) (by decide +kernel) (by decide) ?_
                                  refine lv_aload_n hx hb d_L_law_948 rfl (lv_at hl 1 rfl) ?_
                                  refine lv_aload_n hx hb d_L_law_949 rfl (lv_at hl 0 rfl) ?_
                                  refine lv_iload hx hb d_L_law_950 (lv_at hl 4 rfl) ?_
                                  refine lv_iconst (v := 1) hx hb d_L_law_952 (by decide) ?_
                                  refine lv_iadd hx hb d_L_law_953 ?_
                                  refine va_sld hx hb hX hbl hbA hS hi1 d_L_law_954 ?_
                                  rw [← es1]
                                  refine lv_aload_n hx hb d_L_law_955 rfl (lv_at hl 0 rfl) ?_
                                  refine lv_iload hx hb d_L_law_956 (lv_at hl 4 rfl) ?_
                                  refine lv_iconst (v := 2) hx hb d_L_law_958 (by decide) ?_
                                  refine lv_iadd hx hb d_L_law_959 ?_
                                  refine va_sld hx hb hX hbl hbA hS hi2 d_L_law_960 ?_
                                  rw [← es2]
                                  refine lv_aload_n hx hb d_L_law_961 rfl (lv_at hl 0 rfl) ?_
                                  refine lv_iload hx hb d_L_law_962 (lv_at hl 4 rfl) ?_
                                  refine lv_iconst (v := 3) hx hb d_L_law_964 (by decide) ?_
                                  refine lv_iadd hx hb d_L_law_965 ?_
                                  refine va_sld hx hb hX hbl hbA hS hi3 d_L_law_966 ?_
                                  rw [← es3]
                                  refine lv_aload_n hx hb d_L_law_967 rfl (lv_at hl 3 rfl) ?_
                                  have hPc := hP.sub (ws' := (wO o0 a0 a1 a2 a3 a4 a5 co c1 c2 c4 c5 made size tooG out kept sizes rows taken)) [0, 1, 2, 3, 4, 5, 6] rfl
                                  have hDc := hD.sub (ws' := (wO o0 a0 a1 a2 a3 a4 a5 co c1 c2 c4 c5 made size tooG out kept sizes rows taken)) [0, 1, 2, 3, 4, 5, 6] (by decide) rfl
                                  have hKc := hK.sub (tys' := [(co, .long), (c1, .int), (c2, .int), (c4, .int), (c5, .int)]) [0, 1, 2, 3, 4] rfl
                                  have hFc := va_free (wc := (wO o0 a0 a1 a2 a3 a4 a5 co c1 c2 c4 c5 made size tooG out kept sizes rows taken)) hD hS hA [0, 1, 2, 3, 4, 5, 6] rfl
                                  refine va_calli (vx_runSW (As := [.ref a0, .int s1, .int s2, .int s3, .ref o0]) (rest := []) ⟨hx, hb, hml, hown, hB⟩ (c_L_ratio l D o0 a0 a1 a2 a3 a4 a5 co c1 c2 c4 c5 H.size made size tooG out kept sizes rows taken s1 s2 s3 _ hst) (vx_cwSW 5 hB (goodSW wd_303 wd_304 wd_0 wd_305) rfl rfl rfl (by decide +kernel) ⟨Nat.le_of_ble_eq_true rfl, Nat.le_of_ble_eq_true rfl⟩) ⟨pcH_blind, pcH_pre hPc hKc hDc hS hXH hFc h⟩ rfl rfl hl.1 rfl (lv_room (Nat.le_of_ble_eq_true rfl)) d_L_law_968 ⟨by show _ ≤ 601024; omega, by show _ ≤ 7293034; omega⟩) hS (fun q _ h => hFc q h) hFc (fun r308 u t H1 locs ht hvm h hBu hz1 hk1 hS => ?_)
                                  obtain ⟨made_309, size_310, tooG_311, out_312, kept_313, sizes_314, rows_315, taken_316⟩ := u
                                  obtain ⟨hP1, hK1, hD1⟩ := hBu
                                  rw [ht] at hP1
                                  obtain ⟨hP, hD⟩ := va_join (wr := [(m0, .inr (2, [.int qcode, .int qfuns, .ref m1, .ref m2, .int qmade, .ref m3, .int qgreat, .ref m4, .ref m5, .long qup, .long qdown])), (m1, .inl (k1, 80, .inl qsize)), (m2, .inl (k2, 5600, .inl qrows)), (m3, .inl (k3, 840, .inl qwork)), (m4, .inl (k4, 7, .inl qxx)), (m5, .inl (k5, 5, .inl qpower))]) (w1 := (wO o0 a0 a1 a2 a3 a4 a5 co c1 c2 c4 c5 made_309 size_310 tooG_311 out_312 kept_313 sizes_314 rows_315 taken_316)) hP hD [0, 1, 2, 3, 4, 5, 6] [7, 8, 9, 10, 11, 12] rfl rfl (by decide) (by decide) hk1 hFc hP1 hD1
                                  generalize H1 = H at hP hS ⊢
                                  have hP : va_P D vwCl (wL o0 a0 a1 a2 a3 a4 a5 m0 m1 m2 m3 m4 m5 co c1 c2 c4 c5 k1 k2 k3 k4 k5 made_309 size_310 tooG_311 qcode qfuns qmade qgreat qup qdown out_312 kept_313 sizes_314 rows_315 taken_316 qsize qrows qwork qxx qpower) H := hP.sub [6, 7, 8, 9, 10, 11, 12, 0, 1, 2, 3, 4, 5] rfl
                                  have hD : va_D A (wL o0 a0 a1 a2 a3 a4 a5 m0 m1 m2 m3 m4 m5 co c1 c2 c4 c5 k1 k2 k3 k4 k5 made_309 size_310 tooG_311 qcode qfuns qmade qgreat qup qdown out_312 kept_313 sizes_314 rows_315 taken_316 qsize qrows qwork qxx qpower) := hD.sub [6, 7, 8, 9, 10, 11, 12, 0, 1, 2, 3, 4, 5] (by decide) rfl
                                  refine W.widen (k := 13 + 4 * (k + 1)) (n := 12939 + 24 * (k + 1)) (by omega) (by omega) ?_
                                  refine lv_istore (lv' := [(5, .int r308), (0, .ref b), (1, .ref a0), (2, .ref m0), (3, .ref o0), (4, .int x4)]) hx hb d_L_law_971 hl (by decide) rfl (fun ls hl => ?_)
                                  refine lv_aload_n hx hb d_L_law_973 rfl (lv_at hl 3 rfl) ?_
                                  refine lv_aload_n hx hb d_L_law_974 rfl (lv_at hl 1 rfl) ?_
                                  refine lv_iload hx hb d_L_law_975 (lv_at hl 5 rfl) ?_
                                  refine lv_iconst (v := 1) hx hb d_L_law_977 (by decide) ?_
                                  refine lv_iadd hx hb d_L_law_978 ?_
                                  refine va_sld hx hb hX hbl hbA hS hi1 d_L_law_979 ?_
                                  rw [← es1]
                                  refine lv_aload_n hx hb d_L_law_980 rfl (lv_at hl 1 rfl) ?_
                                  refine lv_iload hx hb d_L_law_981 (lv_at hl 5 rfl) ?_
                                  refine lv_iconst (v := 2) hx hb d_L_law_983 (by decide) ?_
                                  refine lv_iadd hx hb d_L_law_984 ?_
                                  refine va_sld hx hb hX hbl hbA hS hi2 d_L_law_985 ?_
                                  rw [← es2]
                                  refine lv_aload_n hx hb d_L_law_986 rfl (lv_at hl 1 rfl) ?_
                                  refine lv_iload hx hb d_L_law_987 (lv_at hl 5 rfl) ?_
                                  refine lv_iconst (v := 3) hx hb d_L_law_989 (by decide) ?_
                                  refine lv_iadd hx hb d_L_law_990 ?_
                                  refine va_sld hx hb hX hbl hbA hS hi3 d_L_law_991 ?_
                                  rw [← es3]
                                  have hPc := hP.sub (ws' := (wM m0 m1 m2 m3 m4 m5 k1 k2 k3 k4 k5 qcode qfuns qmade qgreat qup qdown qsize qrows qwork qxx qpower)) [7, 8, 9, 10, 11, 12] rfl
                                  have hDc := hD.sub (ws' := (wM m0 m1 m2 m3 m4 m5 k1 k2 k3 k4 k5 qcode qfuns qmade qgreat qup qdown qsize qrows qwork qxx qpower)) [7, 8, 9, 10, 11, 12] (by decide) rfl
                                  have hKc := hK.sub (tys' := [(k1, .int), (k2, .int), (k3, .int), (k4, .int), (k5, .int)]) [5, 6, 7, 8, 9] rfl
                                  have hFc := va_free (wc := (wM m0 m1 m2 m3 m4 m5 k1 k2 k3 k4 k5 qcode qfuns qmade qgreat qup qdown qsize qrows qwork qxx qpower)) hD hS hA [7, 8, 9, 10, 11, 12] rfl
                                  refine va_calll (va_runV (As := [.int s1, .int s2, .int s3]) (rest := []) ⟨hx, hb, hml, hown, hB⟩ (c_M_ratio l D m0 m1 m2 m3 m4 m5 k1 k2 k3 k4 k5 H.size qcode qfuns qmade qgreat qup qdown qsize qrows qwork qxx qpower s1 s2 s3 _) (cwV 3 hB (goodV wd_472 wd_473 wd_474 wd_3 wd_475) rfl rfl rfl (by decide +kernel) ⟨Nat.le_of_ble_eq_true rfl, Nat.le_of_ble_eq_true rfl⟩) ⟨pcG_blind, va_recv hKc hPc (ci := 2) (q0 := 0) rfl rfl, pcG_pre hPc hKc hDc h⟩ rfl rfl hl.1 rfl (lv_room (Nat.le_of_ble_eq_true rfl)) d_L_law_992 ⟨by show _ ≤ 601024; omega, by show _ ≤ 7293034; omega⟩) hS (fun q _ h => hFc q h) hFc (fun r317 u t H1 locs ht hvm h hBu hz1 hk1 hS => ?_)
                                  obtain ⟨qcode_318, qup_319, qdown_320⟩ := u
                                  obtain ⟨hP1, hK1, hD1⟩ := hBu
                                  rw [ht] at hP1
                                  obtain ⟨hP, hD⟩ := va_join (wr := [(o0, .inl (co, 1, .inr (.inl out_312))), (a0, .inr (1, [.ref a1, .ref a2, .ref a3, .int made_309])), (a1, .inl (c1, 5600, .inl kept_313)), (a2, .inl (c2, 80, .inl sizes_314)), (a3, .inr (0, [.ref a4, .ref a5, .int size_310, .int tooG_311])), (a4, .inl (c4, 700, .inl rows_315)), (a5, .inl (c5, 7, .inl taken_316))]) (w1 := (wM m0 m1 m2 m3 m4 m5 k1 k2 k3 k4 k5 qcode_318 qfuns qmade qgreat qup_319 qdown_320 qsize qrows qwork qxx qpower)) hP hD [7, 8, 9, 10, 11, 12] [0, 1, 2, 3, 4, 5, 6] rfl rfl (by decide) (by decide) hk1 hFc hP1 hD1
                                  generalize H1 = H at hP hS ⊢
                                  have hP : va_P D vwCl (wL o0 a0 a1 a2 a3 a4 a5 m0 m1 m2 m3 m4 m5 co c1 c2 c4 c5 k1 k2 k3 k4 k5 made_309 size_310 tooG_311 qcode_318 qfuns qmade qgreat qup_319 qdown_320 out_312 kept_313 sizes_314 rows_315 taken_316 qsize qrows qwork qxx qpower) H := hP.sub [0, 1, 2, 3, 4, 5, 6, 7, 8, 9, 10, 11, 12] rfl
                                  have hD : va_D A (wL o0 a0 a1 a2 a3 a4 a5 m0 m1 m2 m3 m4 m5 co c1 c2 c4 c5 k1 k2 k3 k4 k5 made_309 size_310 tooG_311 qcode_318 qfuns qmade qgreat qup_319 qdown_320 out_312 kept_313 sizes_314 rows_315 taken_316 qsize qrows qwork qxx qpower) := hD.sub [0, 1, 2, 3, 4, 5, 6, 7, 8, 9, 10, 11, 12] (by decide) rfl
                                  refine W.widen (k := 13 + 4 * (k + 1)) (n := 12939 + 24 * (k + 1)) (by omega) (by omega) ?_
                                  refine lv_lstore (lv' := [(6, .long r317), (5, .int r308), (0, .ref b), (1, .ref a0), (2, .ref m0), (3, .ref o0), (4, .int x4)]) hx hb d_L_law_995 hl (by decide) rfl (fun ls hl => ?_)
                                  refine lv_aload_n hx hb d_L_law_997 rfl (lv_at hl 4 rfl) ?_
                                  have hPc := hP.sub (ws' := (wM m0 m1 m2 m3 m4 m5 k1 k2 k3 k4 k5 qcode_318 qfuns qmade qgreat qup_319 qdown_320 qsize qrows qwork qxx qpower)) [7, 8, 9, 10, 11, 12] rfl
                                  have hDc := hD.sub (ws' := (wM m0 m1 m2 m3 m4 m5 k1 k2 k3 k4 k5 qcode_318 qfuns qmade qgreat qup_319 qdown_320 qsize qrows qwork qxx qpower)) [7, 8, 9, 10, 11, 12] (by decide) rfl
                                  have hKc := hK.sub (tys' := [(k1, .int), (k2, .int), (k3, .int), (k4, .int), (k5, .int)]) [5, 6, 7, 8, 9] rfl
                                  have hFc := va_free (wc := (wM m0 m1 m2 m3 m4 m5 k1 k2 k3 k4 k5 qcode_318 qfuns qmade qgreat qup_319 qdown_320 qsize qrows qwork qxx qpower)) hD hS hA [7, 8, 9, 10, 11, 12] rfl
                                  refine va_calli (va_runV (As := []) (rest := []) ⟨hx, hb, hml, hown, hB⟩ (c_M_thrown l D m0 m1 m2 m3 m4 m5 k1 k2 k3 k4 k5 H.size qcode_318 qfuns qmade qgreat qup_319 qdown_320 qsize qrows qwork qxx qpower _) (cwV 0 hB (goodV wd_349 wd_350 wd_351 wd_3 wd_352) rfl rfl rfl (by decide +kernel) ⟨Nat.le_of_ble_eq_true rfl, Nat.le_of_ble_eq_true rfl⟩) ⟨pcG_blind, va_recv hKc hPc (ci := 2) (q0 := 0) rfl rfl, pcG_pre hPc hKc hDc h⟩ rfl rfl hl.1 rfl (lv_room (Nat.le_of_ble_eq_true rfl)) d_L_law_998 ⟨by show _ ≤ 601024; omega, by show _ ≤ 7293034; omega⟩) hS (fun q _ h => hFc q h) hFc (fun r321 u t H1 locs ht hvm h hBu hz1 hk1 hS => ?_)
                                  obtain ⟨hP1, hK1, hD1⟩ := hBu
                                  rw [ht] at hP1
                                  obtain ⟨hP, hD⟩ := va_join (wr := [(o0, .inl (co, 1, .inr (.inl out_312))), (a0, .inr (1, [.ref a1, .ref a2, .ref a3, .int made_309])), (a1, .inl (c1, 5600, .inl kept_313)), (a2, .inl (c2, 80, .inl sizes_314)), (a3, .inr (0, [.ref a4, .ref a5, .int size_310, .int tooG_311])), (a4, .inl (c4, 700, .inl rows_315)), (a5, .inl (c5, 7, .inl taken_316))]) (w1 := (wM m0 m1 m2 m3 m4 m5 k1 k2 k3 k4 k5 qcode_318 qfuns qmade qgreat qup_319 qdown_320 qsize qrows qwork qxx qpower)) hP hD [7, 8, 9, 10, 11, 12] [0, 1, 2, 3, 4, 5, 6] rfl rfl (by decide) (by decide) hk1 hFc hP1 hD1
                                  generalize H1 = H at hP hS ⊢
                                  have hP : va_P D vwCl (wL o0 a0 a1 a2 a3 a4 a5 m0 m1 m2 m3 m4 m5 co c1 c2 c4 c5 k1 k2 k3 k4 k5 made_309 size_310 tooG_311 qcode_318 qfuns qmade qgreat qup_319 qdown_320 out_312 kept_313 sizes_314 rows_315 taken_316 qsize qrows qwork qxx qpower) H := hP.sub [0, 1, 2, 3, 4, 5, 6, 7, 8, 9, 10, 11, 12] rfl
                                  have hD : va_D A (wL o0 a0 a1 a2 a3 a4 a5 m0 m1 m2 m3 m4 m5 co c1 c2 c4 c5 k1 k2 k3 k4 k5 made_309 size_310 tooG_311 qcode_318 qfuns qmade qgreat qup_319 qdown_320 out_312 kept_313 sizes_314 rows_315 taken_316 qsize qrows qwork qxx qpower) := hD.sub [0, 1, 2, 3, 4, 5, 6, 7, 8, 9, 10, 11, 12] (by decide) rfl
                                  refine W.widen (k := 13 + 4 * (k + 1)) (n := 12939 + 24 * (k + 1)) (by omega) (by omega) ?_
                                  refine lv_iload hx hb d_L_law_1001 (lv_at hl 1 rfl) ?_
                                  refine lv_icmp_eq (tgt := 1008) hx hb d_L_law_1003 (by decide) (fun hc322 => ?_) (fun hc322 => ?_)
                                  · replace h := h.1 hc322
                                    refine lv_iload hx hb d_L_law_1008 (lv_at hl 1 rfl) ?_
                                    refine lv_if_ne (tgt := 1024) hx hb d_L_law_1010 (by decide) (fun hc323 => ?_) (fun hc323 => ?_)
                                    · replace h := h.1 hc323
                                      refine lv_goto (tgt := 1227) hx hb d_L_law_1024 (by decide) ?_
                                      obtain ⟨x324, ex324⟩ : ∃ z : Int32, z = x4 + 4 := ⟨_, rfl⟩
                                      refine lv_iinc (v := x324) (lv' := [(4, .int x324), (6, .long r317), (5, .int r308), (0, .ref b), (1, .ref a0), (2, .ref m0), (3, .ref o0)]) hx hb d_L_law_1227 hl (k := 6) rfl (by rw [ex324]; rfl) (by decide) rfl (fun ls hl => ?_)
                                      refine lv_goto (tgt := 23) hx hb d_L_law_1230 (by decide) ?_
                                      exact ihn (k + 1) x324 made_309 size_310 tooG_311 qcode_318 qfuns qmade qgreat qup_319 qdown_320 out_312 kept_313 sizes_314 rows_315 taken_316 qsize qrows qwork qxx qpower _ _ _ (by omega) (by omega) (by rw [ex324, ex4]; exact (nI_add _ 4).trans (by rw [show 4 * (k + 1) = 4 * k + 4 by omega])) h hP hD hS (lv_sub hl [3, 4, 5, 6, 0] rfl)
                                    · replace h := h.2 hc323
                                      refine lv_aload_n hx hb d_L_law_1013 rfl (lv_at hl 5 rfl) ?_
                                      refine lv_iconst (v := 0) hx hb d_L_law_1014 (by decide) ?_
                                      obtain ⟨g325, h⟩ := h
                                      refine va_lald hx hb hK hP 0 0 rfl rfl g325 d_L_law_1015 ?_
                                      refine lv_lload hx hb d_L_law_1016 (lv_at hl 0 rfl) ?_
                                      refine W.lcmp hx hb d_L_law_1018 ?_
                                      refine lv_if_eq (tgt := 1024) hx hb d_L_law_1019 (by decide) (fun hc326 => ?_) (fun hc326 => ?_)
                                      · replace h := h.1 hc326
                                        refine lv_goto (tgt := 1227) hx hb d_L_law_1024 (by decide) ?_
                                        obtain ⟨x327, ex327⟩ : ∃ z : Int32, z = x4 + 4 := ⟨_, rfl⟩
                                        refine lv_iinc (v := x327) (lv' := [(4, .int x327), (6, .long r317), (5, .int r308), (0, .ref b), (1, .ref a0), (2, .ref m0), (3, .ref o0)]) hx hb d_L_law_1227 hl (k := 6) rfl (by rw [ex327]; rfl) (by decide) rfl (fun ls hl => ?_)
                                        refine lv_goto (tgt := 23) hx hb d_L_law_1230 (by decide) ?_
                                        exact ihn (k + 1) x327 made_309 size_310 tooG_311 qcode_318 qfuns qmade qgreat qup_319 qdown_320 out_312 kept_313 sizes_314 rows_315 taken_316 qsize qrows qwork qxx qpower _ _ _ (by omega) (by omega) (by rw [ex327, ex4]; exact (nI_add _ 4).trans (by rw [show 4 * (k + 1) = 4 * k + 4 by omega])) h hP hD hS (lv_sub hl [3, 4, 5, 6, 0] rfl)
                                      · replace h := h.2 hc326
                                        refine lv_iconst (v := 0) hx hb d_L_law_1022 (by decide) ?_
                                        exact (show False from h).elim
                                  · replace h := h.2 hc322
                                    refine lv_iconst (v := 0) hx hb d_L_law_1006 (by decide) ?_
                                    exact (show False from h).elim
                                · replace h := h.2 t13
                                  by_cases t14 : sw = 14
                                  · replace h := h.1 t14
                                    clear esw
                                    subst t14
                                    refine lv_tableIn (off := 988) (tgt := 1027) hx hb d_L_law_39 (by decide) (by decide) (by decide +kernel) (by decide) ?_
                                    refine lv_aload_n hx hb d_L_law_1027 rfl (lv_at hl 1 rfl) ?_
                                    refine lv_aload_n hx hb d_L_law_1028 rfl (lv_at hl 0 rfl) ?_
                                    refine lv_iload hx hb d_L_law_1029 (lv_at hl 4 rfl) ?_
                                    refine lv_iconst (v := 1) hx hb d_L_law_1031 (by decide) ?_
                                    refine lv_iadd hx hb d_L_law_1032 ?_
                                    refine va_sld hx hb hX hbl hbA hS hi1 d_L_law_1033 ?_
                                    rw [← es1]
                                    refine lv_aload_n hx hb d_L_law_1034 rfl (lv_at hl 3 rfl) ?_
                                    have hPc := hP.sub (ws' := (wO o0 a0 a1 a2 a3 a4 a5 co c1 c2 c4 c5 made size tooG out kept sizes rows taken)) [0, 1, 2, 3, 4, 5, 6] rfl
                                    have hDc := hD.sub (ws' := (wO o0 a0 a1 a2 a3 a4 a5 co c1 c2 c4 c5 made size tooG out kept sizes rows taken)) [0, 1, 2, 3, 4, 5, 6] (by decide) rfl
                                    have hKc := hK.sub (tys' := [(co, .long), (c1, .int), (c2, .int), (c4, .int), (c5, .int)]) [0, 1, 2, 3, 4] rfl
                                    have hFc := va_free (wc := (wO o0 a0 a1 a2 a3 a4 a5 co c1 c2 c4 c5 made size tooG out kept sizes rows taken)) hD hS hA [0, 1, 2, 3, 4, 5, 6] rfl
                                    refine va_calli (vx_runSW (As := [.ref a0, .int s1, .ref o0]) (rest := []) ⟨hx, hb, hml, hown, hB⟩ (c_L_sign l D o0 a0 a1 a2 a3 a4 a5 co c1 c2 c4 c5 H.size made size tooG out kept sizes rows taken s1 _ hst) (vx_cwSW 3 hB (goodSW wd_311 wd_312 wd_0 wd_313) rfl rfl rfl (by decide +kernel) ⟨Nat.le_of_ble_eq_true rfl, Nat.le_of_ble_eq_true rfl⟩) ⟨pcH_blind, pcH_pre hPc hKc hDc hS hXH hFc h⟩ rfl rfl hl.1 rfl (lv_room (Nat.le_of_ble_eq_true rfl)) d_L_law_1035 ⟨by show _ ≤ 601024; omega, by show _ ≤ 7293034; omega⟩) hS (fun q _ h => hFc q h) hFc (fun r328 u t H1 locs ht hvm h hBu hz1 hk1 hS => ?_)
                                    obtain ⟨made_329, size_330, tooG_331, out_332, kept_333, sizes_334, rows_335, taken_336⟩ := u
                                    obtain ⟨hP1, hK1, hD1⟩ := hBu
                                    rw [ht] at hP1
                                    obtain ⟨hP, hD⟩ := va_join (wr := [(m0, .inr (2, [.int qcode, .int qfuns, .ref m1, .ref m2, .int qmade, .ref m3, .int qgreat, .ref m4, .ref m5, .long qup, .long qdown])), (m1, .inl (k1, 80, .inl qsize)), (m2, .inl (k2, 5600, .inl qrows)), (m3, .inl (k3, 840, .inl qwork)), (m4, .inl (k4, 7, .inl qxx)), (m5, .inl (k5, 5, .inl qpower))]) (w1 := (wO o0 a0 a1 a2 a3 a4 a5 co c1 c2 c4 c5 made_329 size_330 tooG_331 out_332 kept_333 sizes_334 rows_335 taken_336)) hP hD [0, 1, 2, 3, 4, 5, 6] [7, 8, 9, 10, 11, 12] rfl rfl (by decide) (by decide) hk1 hFc hP1 hD1
                                    generalize H1 = H at hP hS ⊢
                                    have hP : va_P D vwCl (wL o0 a0 a1 a2 a3 a4 a5 m0 m1 m2 m3 m4 m5 co c1 c2 c4 c5 k1 k2 k3 k4 k5 made_329 size_330 tooG_331 qcode qfuns qmade qgreat qup qdown out_332 kept_333 sizes_334 rows_335 taken_336 qsize qrows qwork qxx qpower) H := hP.sub [6, 7, 8, 9, 10, 11, 12, 0, 1, 2, 3, 4, 5] rfl
                                    have hD : va_D A (wL o0 a0 a1 a2 a3 a4 a5 m0 m1 m2 m3 m4 m5 co c1 c2 c4 c5 k1 k2 k3 k4 k5 made_329 size_330 tooG_331 qcode qfuns qmade qgreat qup qdown out_332 kept_333 sizes_334 rows_335 taken_336 qsize qrows qwork qxx qpower) := hD.sub [6, 7, 8, 9, 10, 11, 12, 0, 1, 2, 3, 4, 5] (by decide) rfl
                                    refine W.widen (k := 13 + 4 * (k + 1)) (n := 12939 + 24 * (k + 1)) (by omega) (by omega) ?_
                                    refine lv_istore (lv' := [(5, .int r328), (0, .ref b), (1, .ref a0), (2, .ref m0), (3, .ref o0), (4, .int x4)]) hx hb d_L_law_1038 hl (by decide) rfl (fun ls hl => ?_)
                                    refine lv_aload_n hx hb d_L_law_1040 rfl (lv_at hl 3 rfl) ?_
                                    refine lv_aload_n hx hb d_L_law_1041 rfl (lv_at hl 1 rfl) ?_
                                    refine lv_iload hx hb d_L_law_1042 (lv_at hl 5 rfl) ?_
                                    refine lv_iconst (v := 1) hx hb d_L_law_1044 (by decide) ?_
                                    refine lv_iadd hx hb d_L_law_1045 ?_
                                    refine va_sld hx hb hX hbl hbA hS hi1 d_L_law_1046 ?_
                                    rw [← es1]
                                    have hPc := hP.sub (ws' := (wM m0 m1 m2 m3 m4 m5 k1 k2 k3 k4 k5 qcode qfuns qmade qgreat qup qdown qsize qrows qwork qxx qpower)) [7, 8, 9, 10, 11, 12] rfl
                                    have hDc := hD.sub (ws' := (wM m0 m1 m2 m3 m4 m5 k1 k2 k3 k4 k5 qcode qfuns qmade qgreat qup qdown qsize qrows qwork qxx qpower)) [7, 8, 9, 10, 11, 12] (by decide) rfl
                                    have hKc := hK.sub (tys' := [(k1, .int), (k2, .int), (k3, .int), (k4, .int), (k5, .int)]) [5, 6, 7, 8, 9] rfl
                                    have hFc := va_free (wc := (wM m0 m1 m2 m3 m4 m5 k1 k2 k3 k4 k5 qcode qfuns qmade qgreat qup qdown qsize qrows qwork qxx qpower)) hD hS hA [7, 8, 9, 10, 11, 12] rfl
                                    refine va_calli (va_runV (As := [.int s1]) (rest := []) ⟨hx, hb, hml, hown, hB⟩ (c_M_sign l D m0 m1 m2 m3 m4 m5 k1 k2 k3 k4 k5 H.size qcode qfuns qmade qgreat qup qdown qsize qrows qwork qxx qpower s1 _) (cwV 1 hB (goodV wd_447 wd_448 wd_449 wd_3 wd_450) rfl rfl rfl (by decide +kernel) ⟨Nat.le_of_ble_eq_true rfl, Nat.le_of_ble_eq_true rfl⟩) ⟨pcG_blind, va_recv hKc hPc (ci := 2) (q0 := 0) rfl rfl, pcG_pre hPc hKc hDc h⟩ rfl rfl hl.1 rfl (lv_room (Nat.le_of_ble_eq_true rfl)) d_L_law_1047 ⟨by show _ ≤ 601024; omega, by show _ ≤ 7293034; omega⟩) hS (fun q _ h => hFc q h) hFc (fun r337 qcode_338 t H1 locs ht hvm h hBu hz1 hk1 hS => ?_)
                                    obtain ⟨hP1, hK1, hD1⟩ := hBu
                                    rw [ht] at hP1
                                    obtain ⟨hP, hD⟩ := va_join (wr := [(o0, .inl (co, 1, .inr (.inl out_332))), (a0, .inr (1, [.ref a1, .ref a2, .ref a3, .int made_329])), (a1, .inl (c1, 5600, .inl kept_333)), (a2, .inl (c2, 80, .inl sizes_334)), (a3, .inr (0, [.ref a4, .ref a5, .int size_330, .int tooG_331])), (a4, .inl (c4, 700, .inl rows_335)), (a5, .inl (c5, 7, .inl taken_336))]) (w1 := (wM m0 m1 m2 m3 m4 m5 k1 k2 k3 k4 k5 qcode_338 qfuns qmade qgreat qup qdown qsize qrows qwork qxx qpower)) hP hD [7, 8, 9, 10, 11, 12] [0, 1, 2, 3, 4, 5, 6] rfl rfl (by decide) (by decide) hk1 hFc hP1 hD1
                                    generalize H1 = H at hP hS ⊢
                                    have hP : va_P D vwCl (wL o0 a0 a1 a2 a3 a4 a5 m0 m1 m2 m3 m4 m5 co c1 c2 c4 c5 k1 k2 k3 k4 k5 made_329 size_330 tooG_331 qcode_338 qfuns qmade qgreat qup qdown out_332 kept_333 sizes_334 rows_335 taken_336 qsize qrows qwork qxx qpower) H := hP.sub [0, 1, 2, 3, 4, 5, 6, 7, 8, 9, 10, 11, 12] rfl
                                    have hD : va_D A (wL o0 a0 a1 a2 a3 a4 a5 m0 m1 m2 m3 m4 m5 co c1 c2 c4 c5 k1 k2 k3 k4 k5 made_329 size_330 tooG_331 qcode_338 qfuns qmade qgreat qup qdown out_332 kept_333 sizes_334 rows_335 taken_336 qsize qrows qwork qxx qpower) := hD.sub [0, 1, 2, 3, 4, 5, 6, 7, 8, 9, 10, 11, 12] (by decide) rfl
                                    refine W.widen (k := 13 + 4 * (k + 1)) (n := 12939 + 24 * (k + 1)) (by omega) (by omega) ?_
                                    refine lv_istore (lv' := [(6, .int r337), (5, .int r328), (0, .ref b), (1, .ref a0), (2, .ref m0), (3, .ref o0), (4, .int x4)]) hx hb d_L_law_1050 hl (by decide) rfl (fun ls hl => ?_)
                                    refine lv_aload_n hx hb d_L_law_1052 rfl (lv_at hl 4 rfl) ?_
                                    have hPc := hP.sub (ws' := (wM m0 m1 m2 m3 m4 m5 k1 k2 k3 k4 k5 qcode_338 qfuns qmade qgreat qup qdown qsize qrows qwork qxx qpower)) [7, 8, 9, 10, 11, 12] rfl
                                    have hDc := hD.sub (ws' := (wM m0 m1 m2 m3 m4 m5 k1 k2 k3 k4 k5 qcode_338 qfuns qmade qgreat qup qdown qsize qrows qwork qxx qpower)) [7, 8, 9, 10, 11, 12] (by decide) rfl
                                    have hKc := hK.sub (tys' := [(k1, .int), (k2, .int), (k3, .int), (k4, .int), (k5, .int)]) [5, 6, 7, 8, 9] rfl
                                    have hFc := va_free (wc := (wM m0 m1 m2 m3 m4 m5 k1 k2 k3 k4 k5 qcode_338 qfuns qmade qgreat qup qdown qsize qrows qwork qxx qpower)) hD hS hA [7, 8, 9, 10, 11, 12] rfl
                                    refine va_calli (va_runV (As := []) (rest := []) ⟨hx, hb, hml, hown, hB⟩ (c_M_thrown l D m0 m1 m2 m3 m4 m5 k1 k2 k3 k4 k5 H.size qcode_338 qfuns qmade qgreat qup qdown qsize qrows qwork qxx qpower _) (cwV 0 hB (goodV wd_349 wd_350 wd_351 wd_3 wd_352) rfl rfl rfl (by decide +kernel) ⟨Nat.le_of_ble_eq_true rfl, Nat.le_of_ble_eq_true rfl⟩) ⟨pcG_blind, va_recv hKc hPc (ci := 2) (q0 := 0) rfl rfl, pcG_pre hPc hKc hDc h⟩ rfl rfl hl.1 rfl (lv_room (Nat.le_of_ble_eq_true rfl)) d_L_law_1053 ⟨by show _ ≤ 601024; omega, by show _ ≤ 7293034; omega⟩) hS (fun q _ h => hFc q h) hFc (fun r339 u t H1 locs ht hvm h hBu hz1 hk1 hS => ?_)
                                    obtain ⟨hP1, hK1, hD1⟩ := hBu
                                    rw [ht] at hP1
                                    obtain ⟨hP, hD⟩ := va_join (wr := [(o0, .inl (co, 1, .inr (.inl out_332))), (a0, .inr (1, [.ref a1, .ref a2, .ref a3, .int made_329])), (a1, .inl (c1, 5600, .inl kept_333)), (a2, .inl (c2, 80, .inl sizes_334)), (a3, .inr (0, [.ref a4, .ref a5, .int size_330, .int tooG_331])), (a4, .inl (c4, 700, .inl rows_335)), (a5, .inl (c5, 7, .inl taken_336))]) (w1 := (wM m0 m1 m2 m3 m4 m5 k1 k2 k3 k4 k5 qcode_338 qfuns qmade qgreat qup qdown qsize qrows qwork qxx qpower)) hP hD [7, 8, 9, 10, 11, 12] [0, 1, 2, 3, 4, 5, 6] rfl rfl (by decide) (by decide) hk1 hFc hP1 hD1
                                    generalize H1 = H at hP hS ⊢
                                    have hP : va_P D vwCl (wL o0 a0 a1 a2 a3 a4 a5 m0 m1 m2 m3 m4 m5 co c1 c2 c4 c5 k1 k2 k3 k4 k5 made_329 size_330 tooG_331 qcode_338 qfuns qmade qgreat qup qdown out_332 kept_333 sizes_334 rows_335 taken_336 qsize qrows qwork qxx qpower) H := hP.sub [0, 1, 2, 3, 4, 5, 6, 7, 8, 9, 10, 11, 12] rfl
                                    have hD : va_D A (wL o0 a0 a1 a2 a3 a4 a5 m0 m1 m2 m3 m4 m5 co c1 c2 c4 c5 k1 k2 k3 k4 k5 made_329 size_330 tooG_331 qcode_338 qfuns qmade qgreat qup qdown out_332 kept_333 sizes_334 rows_335 taken_336 qsize qrows qwork qxx qpower) := hD.sub [0, 1, 2, 3, 4, 5, 6, 7, 8, 9, 10, 11, 12] (by decide) rfl
                                    refine W.widen (k := 13 + 4 * (k + 1)) (n := 12939 + 24 * (k + 1)) (by omega) (by omega) ?_
                                    refine lv_iload hx hb d_L_law_1056 (lv_at hl 1 rfl) ?_
                                    refine lv_icmp_eq (tgt := 1063) hx hb d_L_law_1058 (by decide) (fun hc340 => ?_) (fun hc340 => ?_)
                                    · replace h := h.1 hc340
                                      refine lv_iload hx hb d_L_law_1063 (lv_at hl 1 rfl) ?_
                                      refine lv_if_ne (tgt := 1080) hx hb d_L_law_1065 (by decide) (fun hc341 => ?_) (fun hc341 => ?_)
                                      · replace h := h.1 hc341
                                        refine lv_goto (tgt := 1227) hx hb d_L_law_1080 (by decide) ?_
                                        obtain ⟨x342, ex342⟩ : ∃ z : Int32, z = x4 + 4 := ⟨_, rfl⟩
                                        refine lv_iinc (v := x342) (lv' := [(4, .int x342), (6, .int r337), (5, .int r328), (0, .ref b), (1, .ref a0), (2, .ref m0), (3, .ref o0)]) hx hb d_L_law_1227 hl (k := 6) rfl (by rw [ex342]; rfl) (by decide) rfl (fun ls hl => ?_)
                                        refine lv_goto (tgt := 23) hx hb d_L_law_1230 (by decide) ?_
                                        exact ihn (k + 1) x342 made_329 size_330 tooG_331 qcode_338 qfuns qmade qgreat qup qdown out_332 kept_333 sizes_334 rows_335 taken_336 qsize qrows qwork qxx qpower _ _ _ (by omega) (by omega) (by rw [ex342, ex4]; exact (nI_add _ 4).trans (by rw [show 4 * (k + 1) = 4 * k + 4 by omega])) h hP hD hS (lv_sub hl [3, 4, 5, 6, 0] rfl)
                                      · replace h := h.2 hc341
                                        refine lv_aload_n hx hb d_L_law_1068 rfl (lv_at hl 5 rfl) ?_
                                        refine lv_iconst (v := 0) hx hb d_L_law_1069 (by decide) ?_
                                        obtain ⟨g343, h⟩ := h
                                        refine va_lald hx hb hK hP 0 0 rfl rfl g343 d_L_law_1070 ?_
                                        refine lv_iload hx hb d_L_law_1071 (lv_at hl 0 rfl) ?_
                                        refine lv_i2l hx hb d_L_law_1073 rfl ?_
                                        refine W.lcmp hx hb d_L_law_1074 ?_
                                        refine lv_if_eq (tgt := 1080) hx hb d_L_law_1075 (by decide) (fun hc344 => ?_) (fun hc344 => ?_)
                                        · replace h := h.1 hc344
                                          refine lv_goto (tgt := 1227) hx hb d_L_law_1080 (by decide) ?_
                                          obtain ⟨x345, ex345⟩ : ∃ z : Int32, z = x4 + 4 := ⟨_, rfl⟩
                                          refine lv_iinc (v := x345) (lv' := [(4, .int x345), (6, .int r337), (5, .int r328), (0, .ref b), (1, .ref a0), (2, .ref m0), (3, .ref o0)]) hx hb d_L_law_1227 hl (k := 6) rfl (by rw [ex345]; rfl) (by decide) rfl (fun ls hl => ?_)
                                          refine lv_goto (tgt := 23) hx hb d_L_law_1230 (by decide) ?_
                                          exact ihn (k + 1) x345 made_329 size_330 tooG_331 qcode_338 qfuns qmade qgreat qup qdown out_332 kept_333 sizes_334 rows_335 taken_336 qsize qrows qwork qxx qpower _ _ _ (by omega) (by omega) (by rw [ex345, ex4]; exact (nI_add _ 4).trans (by rw [show 4 * (k + 1) = 4 * k + 4 by omega])) h hP hD hS (lv_sub hl [3, 4, 5, 6, 0] rfl)
                                        · replace h := h.2 hc344
                                          refine lv_iconst (v := 0) hx hb d_L_law_1078 (by decide) ?_
                                          exact (show False from h).elim
                                    · replace h := h.2 hc340
                                      refine lv_iconst (v := 0) hx hb d_L_law_1061 (by decide) ?_
                                      exact (show False from h).elim
                                  · replace h := h.2 t14
                                    by_cases t15 : sw = 15
                                    · replace h := h.1 t15
                                      clear esw
                                      subst t15
                                      refine lv_tableIn (off := 1044) (tgt := 1083) hx hb d_L_law_39 (by decide) (by decide) (by decide +kernel) (by decide) ?_
                                      refine lv_aload_n hx hb d_L_law_1083 rfl (lv_at hl 1 rfl) ?_
                                      refine lv_aload_n hx hb d_L_law_1084 rfl (lv_at hl 0 rfl) ?_
                                      refine lv_iload hx hb d_L_law_1085 (lv_at hl 4 rfl) ?_
                                      refine lv_iconst (v := 1) hx hb d_L_law_1087 (by decide) ?_
                                      refine lv_iadd hx hb d_L_law_1088 ?_
                                      refine va_sld hx hb hX hbl hbA hS hi1 d_L_law_1089 ?_
                                      rw [← es1]
                                      refine lv_aload_n hx hb d_L_law_1090 rfl (lv_at hl 0 rfl) ?_
                                      refine lv_iload hx hb d_L_law_1091 (lv_at hl 4 rfl) ?_
                                      refine lv_iconst (v := 2) hx hb d_L_law_1093 (by decide) ?_
                                      refine lv_iadd hx hb d_L_law_1094 ?_
                                      refine va_sld hx hb hX hbl hbA hS hi2 d_L_law_1095 ?_
                                      rw [← es2]
                                      refine lv_aload_n hx hb d_L_law_1096 rfl (lv_at hl 3 rfl) ?_
                                      have hPc := hP.sub (ws' := (wO o0 a0 a1 a2 a3 a4 a5 co c1 c2 c4 c5 made size tooG out kept sizes rows taken)) [0, 1, 2, 3, 4, 5, 6] rfl
                                      have hDc := hD.sub (ws' := (wO o0 a0 a1 a2 a3 a4 a5 co c1 c2 c4 c5 made size tooG out kept sizes rows taken)) [0, 1, 2, 3, 4, 5, 6] (by decide) rfl
                                      have hKc := hK.sub (tys' := [(co, .long), (c1, .int), (c2, .int), (c4, .int), (c5, .int)]) [0, 1, 2, 3, 4] rfl
                                      have hFc := va_free (wc := (wO o0 a0 a1 a2 a3 a4 a5 co c1 c2 c4 c5 made size tooG out kept sizes rows taken)) hD hS hA [0, 1, 2, 3, 4, 5, 6] rfl
                                      refine va_calli (vx_runSW (As := [.ref a0, .int s1, .int s2, .ref o0]) (rest := []) ⟨hx, hb, hml, hown, hB⟩ (c_L_same l D o0 a0 a1 a2 a3 a4 a5 co c1 c2 c4 c5 H.size made size tooG out kept sizes rows taken s1 s2 _ hst) (vx_cwSW 4 hB (goodSW wd_318 wd_319 wd_0 wd_320) rfl rfl rfl (by decide +kernel) ⟨Nat.le_of_ble_eq_true rfl, Nat.le_of_ble_eq_true rfl⟩) ⟨pcH_blind, pcH_pre hPc hKc hDc hS hXH hFc h⟩ rfl rfl hl.1 rfl (lv_room (Nat.le_of_ble_eq_true rfl)) d_L_law_1097 ⟨by show _ ≤ 601024; omega, by show _ ≤ 7293034; omega⟩) hS (fun q _ h => hFc q h) hFc (fun r346 u t H1 locs ht hvm h hBu hz1 hk1 hS => ?_)
                                      obtain ⟨made_347, size_348, tooG_349, out_350, kept_351, sizes_352, rows_353, taken_354⟩ := u
                                      obtain ⟨hP1, hK1, hD1⟩ := hBu
                                      rw [ht] at hP1
                                      obtain ⟨hP, hD⟩ := va_join (wr := [(m0, .inr (2, [.int qcode, .int qfuns, .ref m1, .ref m2, .int qmade, .ref m3, .int qgreat, .ref m4, .ref m5, .long qup, .long qdown])), (m1, .inl (k1, 80, .inl qsize)), (m2, .inl (k2, 5600, .inl qrows)), (m3, .inl (k3, 840, .inl qwork)), (m4, .inl (k4, 7, .inl qxx)), (m5, .inl (k5, 5, .inl qpower))]) (w1 := (wO o0 a0 a1 a2 a3 a4 a5 co c1 c2 c4 c5 made_347 size_348 tooG_349 out_350 kept_351 sizes_352 rows_353 taken_354)) hP hD [0, 1, 2, 3, 4, 5, 6] [7, 8, 9, 10, 11, 12] rfl rfl (by decide) (by decide) hk1 hFc hP1 hD1
                                      generalize H1 = H at hP hS ⊢
                                      have hP : va_P D vwCl (wL o0 a0 a1 a2 a3 a4 a5 m0 m1 m2 m3 m4 m5 co c1 c2 c4 c5 k1 k2 k3 k4 k5 made_347 size_348 tooG_349 qcode qfuns qmade qgreat qup qdown out_350 kept_351 sizes_352 rows_353 taken_354 qsize qrows qwork qxx qpower) H := hP.sub [6, 7, 8, 9, 10, 11, 12, 0, 1, 2, 3, 4, 5] rfl
                                      have hD : va_D A (wL o0 a0 a1 a2 a3 a4 a5 m0 m1 m2 m3 m4 m5 co c1 c2 c4 c5 k1 k2 k3 k4 k5 made_347 size_348 tooG_349 qcode qfuns qmade qgreat qup qdown out_350 kept_351 sizes_352 rows_353 taken_354 qsize qrows qwork qxx qpower) := hD.sub [6, 7, 8, 9, 10, 11, 12, 0, 1, 2, 3, 4, 5] (by decide) rfl
                                      refine W.widen (k := 13 + 4 * (k + 1)) (n := 12939 + 24 * (k + 1)) (by omega) (by omega) ?_
                                      refine lv_istore (lv' := [(5, .int r346), (0, .ref b), (1, .ref a0), (2, .ref m0), (3, .ref o0), (4, .int x4)]) hx hb d_L_law_1100 hl (by decide) rfl (fun ls hl => ?_)
                                      refine lv_aload_n hx hb d_L_law_1102 rfl (lv_at hl 3 rfl) ?_
                                      refine lv_aload_n hx hb d_L_law_1103 rfl (lv_at hl 1 rfl) ?_
                                      refine lv_iload hx hb d_L_law_1104 (lv_at hl 5 rfl) ?_
                                      refine lv_iconst (v := 1) hx hb d_L_law_1106 (by decide) ?_
                                      refine lv_iadd hx hb d_L_law_1107 ?_
                                      refine va_sld hx hb hX hbl hbA hS hi1 d_L_law_1108 ?_
                                      rw [← es1]
                                      refine lv_aload_n hx hb d_L_law_1109 rfl (lv_at hl 1 rfl) ?_
                                      refine lv_iload hx hb d_L_law_1110 (lv_at hl 5 rfl) ?_
                                      refine lv_iconst (v := 2) hx hb d_L_law_1112 (by decide) ?_
                                      refine lv_iadd hx hb d_L_law_1113 ?_
                                      refine va_sld hx hb hX hbl hbA hS hi2 d_L_law_1114 ?_
                                      rw [← es2]
                                      have hPc := hP.sub (ws' := (wM m0 m1 m2 m3 m4 m5 k1 k2 k3 k4 k5 qcode qfuns qmade qgreat qup qdown qsize qrows qwork qxx qpower)) [7, 8, 9, 10, 11, 12] rfl
                                      have hDc := hD.sub (ws' := (wM m0 m1 m2 m3 m4 m5 k1 k2 k3 k4 k5 qcode qfuns qmade qgreat qup qdown qsize qrows qwork qxx qpower)) [7, 8, 9, 10, 11, 12] (by decide) rfl
                                      have hKc := hK.sub (tys' := [(k1, .int), (k2, .int), (k3, .int), (k4, .int), (k5, .int)]) [5, 6, 7, 8, 9] rfl
                                      have hFc := va_free (wc := (wM m0 m1 m2 m3 m4 m5 k1 k2 k3 k4 k5 qcode qfuns qmade qgreat qup qdown qsize qrows qwork qxx qpower)) hD hS hA [7, 8, 9, 10, 11, 12] rfl
                                      refine va_calli (va_runV (As := [.int s1, .int s2]) (rest := []) ⟨hx, hb, hml, hown, hB⟩ (c_M_same l D m0 m1 m2 m3 m4 m5 k1 k2 k3 k4 k5 H.size qcode qfuns qmade qgreat qup qdown qsize qrows qwork qxx qpower s1 s2 _) (cwV 2 hB (goodV wd_476 wd_477 wd_478 wd_3 wd_479) rfl rfl rfl (by decide +kernel) ⟨Nat.le_of_ble_eq_true rfl, Nat.le_of_ble_eq_true rfl⟩) ⟨pcG_blind, va_recv hKc hPc (ci := 2) (q0 := 0) rfl rfl, pcG_pre hPc hKc hDc h⟩ rfl rfl hl.1 rfl (lv_room (Nat.le_of_ble_eq_true rfl)) d_L_law_1115 ⟨by show _ ≤ 601024; omega, by show _ ≤ 7293034; omega⟩) hS (fun q _ h => hFc q h) hFc (fun r355 qcode_356 t H1 locs ht hvm h hBu hz1 hk1 hS => ?_)
                                      obtain ⟨hP1, hK1, hD1⟩ := hBu
                                      rw [ht] at hP1
                                      obtain ⟨hP, hD⟩ := va_join (wr := [(o0, .inl (co, 1, .inr (.inl out_350))), (a0, .inr (1, [.ref a1, .ref a2, .ref a3, .int made_347])), (a1, .inl (c1, 5600, .inl kept_351)), (a2, .inl (c2, 80, .inl sizes_352)), (a3, .inr (0, [.ref a4, .ref a5, .int size_348, .int tooG_349])), (a4, .inl (c4, 700, .inl rows_353)), (a5, .inl (c5, 7, .inl taken_354))]) (w1 := (wM m0 m1 m2 m3 m4 m5 k1 k2 k3 k4 k5 qcode_356 qfuns qmade qgreat qup qdown qsize qrows qwork qxx qpower)) hP hD [7, 8, 9, 10, 11, 12] [0, 1, 2, 3, 4, 5, 6] rfl rfl (by decide) (by decide) hk1 hFc hP1 hD1
                                      generalize H1 = H at hP hS ⊢
                                      have hP : va_P D vwCl (wL o0 a0 a1 a2 a3 a4 a5 m0 m1 m2 m3 m4 m5 co c1 c2 c4 c5 k1 k2 k3 k4 k5 made_347 size_348 tooG_349 qcode_356 qfuns qmade qgreat qup qdown out_350 kept_351 sizes_352 rows_353 taken_354 qsize qrows qwork qxx qpower) H := hP.sub [0, 1, 2, 3, 4, 5, 6, 7, 8, 9, 10, 11, 12] rfl
                                      have hD : va_D A (wL o0 a0 a1 a2 a3 a4 a5 m0 m1 m2 m3 m4 m5 co c1 c2 c4 c5 k1 k2 k3 k4 k5 made_347 size_348 tooG_349 qcode_356 qfuns qmade qgreat qup qdown out_350 kept_351 sizes_352 rows_353 taken_354 qsize qrows qwork qxx qpower) := hD.sub [0, 1, 2, 3, 4, 5, 6, 7, 8, 9, 10, 11, 12] (by decide) rfl
                                      refine W.widen (k := 13 + 4 * (k + 1)) (n := 12939 + 24 * (k + 1)) (by omega) (by omega) ?_
                                      refine lv_istore (lv' := [(6, .int r355), (5, .int r346), (0, .ref b), (1, .ref a0), (2, .ref m0), (3, .ref o0), (4, .int x4)]) hx hb d_L_law_1118 hl (by decide) rfl (fun ls hl => ?_)
                                      refine lv_aload_n hx hb d_L_law_1120 rfl (lv_at hl 4 rfl) ?_
                                      have hPc := hP.sub (ws' := (wM m0 m1 m2 m3 m4 m5 k1 k2 k3 k4 k5 qcode_356 qfuns qmade qgreat qup qdown qsize qrows qwork qxx qpower)) [7, 8, 9, 10, 11, 12] rfl
                                      have hDc := hD.sub (ws' := (wM m0 m1 m2 m3 m4 m5 k1 k2 k3 k4 k5 qcode_356 qfuns qmade qgreat qup qdown qsize qrows qwork qxx qpower)) [7, 8, 9, 10, 11, 12] (by decide) rfl
                                      have hKc := hK.sub (tys' := [(k1, .int), (k2, .int), (k3, .int), (k4, .int), (k5, .int)]) [5, 6, 7, 8, 9] rfl
                                      have hFc := va_free (wc := (wM m0 m1 m2 m3 m4 m5 k1 k2 k3 k4 k5 qcode_356 qfuns qmade qgreat qup qdown qsize qrows qwork qxx qpower)) hD hS hA [7, 8, 9, 10, 11, 12] rfl
                                      refine va_calli (va_runV (As := []) (rest := []) ⟨hx, hb, hml, hown, hB⟩ (c_M_thrown l D m0 m1 m2 m3 m4 m5 k1 k2 k3 k4 k5 H.size qcode_356 qfuns qmade qgreat qup qdown qsize qrows qwork qxx qpower _) (cwV 0 hB (goodV wd_349 wd_350 wd_351 wd_3 wd_352) rfl rfl rfl (by decide +kernel) ⟨Nat.le_of_ble_eq_true rfl, Nat.le_of_ble_eq_true rfl⟩) ⟨pcG_blind, va_recv hKc hPc (ci := 2) (q0 := 0) rfl rfl, pcG_pre hPc hKc hDc h⟩ rfl rfl hl.1 rfl (lv_room (Nat.le_of_ble_eq_true rfl)) d_L_law_1121 ⟨by show _ ≤ 601024; omega, by show _ ≤ 7293034; omega⟩) hS (fun q _ h => hFc q h) hFc (fun r357 u t H1 locs ht hvm h hBu hz1 hk1 hS => ?_)
                                      obtain ⟨hP1, hK1, hD1⟩ := hBu
                                      rw [ht] at hP1
                                      obtain ⟨hP, hD⟩ := va_join (wr := [(o0, .inl (co, 1, .inr (.inl out_350))), (a0, .inr (1, [.ref a1, .ref a2, .ref a3, .int made_347])), (a1, .inl (c1, 5600, .inl kept_351)), (a2, .inl (c2, 80, .inl sizes_352)), (a3, .inr (0, [.ref a4, .ref a5, .int size_348, .int tooG_349])), (a4, .inl (c4, 700, .inl rows_353)), (a5, .inl (c5, 7, .inl taken_354))]) (w1 := (wM m0 m1 m2 m3 m4 m5 k1 k2 k3 k4 k5 qcode_356 qfuns qmade qgreat qup qdown qsize qrows qwork qxx qpower)) hP hD [7, 8, 9, 10, 11, 12] [0, 1, 2, 3, 4, 5, 6] rfl rfl (by decide) (by decide) hk1 hFc hP1 hD1
                                      generalize H1 = H at hP hS ⊢
                                      have hP : va_P D vwCl (wL o0 a0 a1 a2 a3 a4 a5 m0 m1 m2 m3 m4 m5 co c1 c2 c4 c5 k1 k2 k3 k4 k5 made_347 size_348 tooG_349 qcode_356 qfuns qmade qgreat qup qdown out_350 kept_351 sizes_352 rows_353 taken_354 qsize qrows qwork qxx qpower) H := hP.sub [0, 1, 2, 3, 4, 5, 6, 7, 8, 9, 10, 11, 12] rfl
                                      have hD : va_D A (wL o0 a0 a1 a2 a3 a4 a5 m0 m1 m2 m3 m4 m5 co c1 c2 c4 c5 k1 k2 k3 k4 k5 made_347 size_348 tooG_349 qcode_356 qfuns qmade qgreat qup qdown out_350 kept_351 sizes_352 rows_353 taken_354 qsize qrows qwork qxx qpower) := hD.sub [0, 1, 2, 3, 4, 5, 6, 7, 8, 9, 10, 11, 12] (by decide) rfl
                                      refine W.widen (k := 13 + 4 * (k + 1)) (n := 12939 + 24 * (k + 1)) (by omega) (by omega) ?_
                                      refine lv_iload hx hb d_L_law_1124 (lv_at hl 1 rfl) ?_
                                      refine lv_icmp_eq (tgt := 1131) hx hb d_L_law_1126 (by decide) (fun hc358 => ?_) (fun hc358 => ?_)
                                      · replace h := h.1 hc358
                                        refine lv_iload hx hb d_L_law_1131 (lv_at hl 1 rfl) ?_
                                        refine lv_if_ne (tgt := 1155) hx hb d_L_law_1133 (by decide) (fun hc359 => ?_) (fun hc359 => ?_)
                                        · replace h := h.1 hc359
                                          refine lv_goto (tgt := 1227) hx hb d_L_law_1155 (by decide) ?_
                                          obtain ⟨x360, ex360⟩ : ∃ z : Int32, z = x4 + 4 := ⟨_, rfl⟩
                                          refine lv_iinc (v := x360) (lv' := [(4, .int x360), (6, .int r355), (5, .int r346), (0, .ref b), (1, .ref a0), (2, .ref m0), (3, .ref o0)]) hx hb d_L_law_1227 hl (k := 6) rfl (by rw [ex360]; rfl) (by decide) rfl (fun ls hl => ?_)
                                          refine lv_goto (tgt := 23) hx hb d_L_law_1230 (by decide) ?_
                                          exact ihn (k + 1) x360 made_347 size_348 tooG_349 qcode_356 qfuns qmade qgreat qup qdown out_350 kept_351 sizes_352 rows_353 taken_354 qsize qrows qwork qxx qpower _ _ _ (by omega) (by omega) (by rw [ex360, ex4]; exact (nI_add _ 4).trans (by rw [show 4 * (k + 1) = 4 * k + 4 by omega])) h hP hD hS (lv_sub hl [3, 4, 5, 6, 0] rfl)
                                        · replace h := h.2 hc359
                                          refine lv_aload_n hx hb d_L_law_1136 rfl (lv_at hl 5 rfl) ?_
                                          refine lv_iconst (v := 0) hx hb d_L_law_1137 (by decide) ?_
                                          obtain ⟨g361, h⟩ := h
                                          refine va_lald hx hb hK hP 0 0 rfl rfl g361 d_L_law_1138 ?_
                                          refine lv_iload hx hb d_L_law_1139 (lv_at hl 0 rfl) ?_
                                          refine lv_if_eq (tgt := 1148) hx hb d_L_law_1141 (by decide) (fun hc362 => ?_) (fun hc362 => ?_)
                                          · replace h := h.1 hc362
                                            refine lv_lconst (v := 0) hx hb d_L_law_1148 (by decide) ?_
                                            refine W.lcmp hx hb d_L_law_1149 ?_
                                            refine lv_if_eq (tgt := 1155) hx hb d_L_law_1150 (by decide) (fun hc363 => ?_) (fun hc363 => ?_)
                                            · replace h := h.1 hc363
                                              refine lv_goto (tgt := 1227) hx hb d_L_law_1155 (by decide) ?_
                                              obtain ⟨x364, ex364⟩ : ∃ z : Int32, z = x4 + 4 := ⟨_, rfl⟩
                                              refine lv_iinc (v := x364) (lv' := [(4, .int x364), (6, .int r355), (5, .int r346), (0, .ref b), (1, .ref a0), (2, .ref m0), (3, .ref o0)]) hx hb d_L_law_1227 hl (k := 6) rfl (by rw [ex364]; rfl) (by decide) rfl (fun ls hl => ?_)
                                              refine lv_goto (tgt := 23) hx hb d_L_law_1230 (by decide) ?_
                                              exact ihn (k + 1) x364 made_347 size_348 tooG_349 qcode_356 qfuns qmade qgreat qup qdown out_350 kept_351 sizes_352 rows_353 taken_354 qsize qrows qwork qxx qpower _ _ _ (by omega) (by omega) (by rw [ex364, ex4]; exact (nI_add _ 4).trans (by rw [show 4 * (k + 1) = 4 * k + 4 by omega])) h hP hD hS (lv_sub hl [3, 4, 5, 6, 0] rfl)
                                            · replace h := h.2 hc363
                                              refine lv_iconst (v := 0) hx hb d_L_law_1153 (by decide) ?_
                                              exact (show False from h).elim
                                          · replace h := h.2 hc362
                                            refine lv_lconst (v := 1) hx hb d_L_law_1144 (by decide) ?_
                                            refine lv_goto (tgt := 1149) hx hb d_L_law_1145 (by decide) ?_
                                            refine W.lcmp hx hb d_L_law_1149 ?_
                                            refine lv_if_eq (tgt := 1155) hx hb d_L_law_1150 (by decide) (fun hc365 => ?_) (fun hc365 => ?_)
                                            · replace h := h.1 hc365
                                              refine lv_goto (tgt := 1227) hx hb d_L_law_1155 (by decide) ?_
                                              obtain ⟨x366, ex366⟩ : ∃ z : Int32, z = x4 + 4 := ⟨_, rfl⟩
                                              refine lv_iinc (v := x366) (lv' := [(4, .int x366), (6, .int r355), (5, .int r346), (0, .ref b), (1, .ref a0), (2, .ref m0), (3, .ref o0)]) hx hb d_L_law_1227 hl (k := 6) rfl (by rw [ex366]; rfl) (by decide) rfl (fun ls hl => ?_)
                                              refine lv_goto (tgt := 23) hx hb d_L_law_1230 (by decide) ?_
                                              exact ihn (k + 1) x366 made_347 size_348 tooG_349 qcode_356 qfuns qmade qgreat qup qdown out_350 kept_351 sizes_352 rows_353 taken_354 qsize qrows qwork qxx qpower _ _ _ (by omega) (by omega) (by rw [ex366, ex4]; exact (nI_add _ 4).trans (by rw [show 4 * (k + 1) = 4 * k + 4 by omega])) h hP hD hS (lv_sub hl [3, 4, 5, 6, 0] rfl)
                                            · replace h := h.2 hc365
                                              refine lv_iconst (v := 0) hx hb d_L_law_1153 (by decide) ?_
                                              exact (show False from h).elim
                                      · replace h := h.2 hc358
                                        refine lv_iconst (v := 0) hx hb d_L_law_1129 (by decide) ?_
                                        exact (show False from h).elim
                                    · replace h := h.2 t15
                                      by_cases t16 : sw = 16
                                      · replace h := h.1 t16
                                        clear esw
                                        subst t16
                                        refine lv_tableIn (off := 1119) (tgt := 1158) hx hb d_L_law_39 (by decide) (by decide) (by decide +kernel) (by decide) ?_
                                        refine lv_aload_n hx hb d_L_law_1158 rfl (lv_at hl 1 rfl) ?_
                                        refine lv_aload_n hx hb d_L_law_1159 rfl (lv_at hl 0 rfl) ?_
                                        refine lv_iload hx hb d_L_law_1160 (lv_at hl 4 rfl) ?_
                                        refine lv_iconst (v := 1) hx hb d_L_law_1162 (by decide) ?_
                                        refine lv_iadd hx hb d_L_law_1163 ?_
                                        refine va_sld hx hb hX hbl hbA hS hi1 d_L_law_1164 ?_
                                        rw [← es1]
                                        refine lv_aload_n hx hb d_L_law_1165 rfl (lv_at hl 3 rfl) ?_
                                        have hPc := hP.sub (ws' := (wO o0 a0 a1 a2 a3 a4 a5 co c1 c2 c4 c5 made size tooG out kept sizes rows taken)) [0, 1, 2, 3, 4, 5, 6] rfl
                                        have hDc := hD.sub (ws' := (wO o0 a0 a1 a2 a3 a4 a5 co c1 c2 c4 c5 made size tooG out kept sizes rows taken)) [0, 1, 2, 3, 4, 5, 6] (by decide) rfl
                                        have hKc := hK.sub (tys' := [(co, .long), (c1, .int), (c2, .int), (c4, .int), (c5, .int)]) [0, 1, 2, 3, 4] rfl
                                        have hFc := va_free (wc := (wO o0 a0 a1 a2 a3 a4 a5 co c1 c2 c4 c5 made size tooG out kept sizes rows taken)) hD hS hA [0, 1, 2, 3, 4, 5, 6] rfl
                                        refine va_calli (vx_runSW (As := [.ref a0, .int s1, .ref o0]) (rest := []) ⟨hx, hb, hml, hown, hB⟩ (c_L_fastest l D o0 a0 a1 a2 a3 a4 a5 co c1 c2 c4 c5 H.size made size tooG out kept sizes rows taken s1 _ hst) (vx_cwSW 3 hB (goodSW wd_325 wd_326 wd_0 wd_327) rfl rfl rfl (by decide +kernel) ⟨Nat.le_of_ble_eq_true rfl, Nat.le_of_ble_eq_true rfl⟩) ⟨pcH_blind, pcH_pre hPc hKc hDc hS hXH hFc h⟩ rfl rfl hl.1 rfl (lv_room (Nat.le_of_ble_eq_true rfl)) d_L_law_1166 ⟨by show _ ≤ 601024; omega, by show _ ≤ 7293034; omega⟩) hS (fun q _ h => hFc q h) hFc (fun r367 u t H1 locs ht hvm h hBu hz1 hk1 hS => ?_)
                                        obtain ⟨made_368, size_369, tooG_370, out_371, kept_372, sizes_373, rows_374, taken_375⟩ := u
                                        obtain ⟨hP1, hK1, hD1⟩ := hBu
                                        rw [ht] at hP1
                                        obtain ⟨hP, hD⟩ := va_join (wr := [(m0, .inr (2, [.int qcode, .int qfuns, .ref m1, .ref m2, .int qmade, .ref m3, .int qgreat, .ref m4, .ref m5, .long qup, .long qdown])), (m1, .inl (k1, 80, .inl qsize)), (m2, .inl (k2, 5600, .inl qrows)), (m3, .inl (k3, 840, .inl qwork)), (m4, .inl (k4, 7, .inl qxx)), (m5, .inl (k5, 5, .inl qpower))]) (w1 := (wO o0 a0 a1 a2 a3 a4 a5 co c1 c2 c4 c5 made_368 size_369 tooG_370 out_371 kept_372 sizes_373 rows_374 taken_375)) hP hD [0, 1, 2, 3, 4, 5, 6] [7, 8, 9, 10, 11, 12] rfl rfl (by decide) (by decide) hk1 hFc hP1 hD1
                                        generalize H1 = H at hP hS ⊢
                                        have hP : va_P D vwCl (wL o0 a0 a1 a2 a3 a4 a5 m0 m1 m2 m3 m4 m5 co c1 c2 c4 c5 k1 k2 k3 k4 k5 made_368 size_369 tooG_370 qcode qfuns qmade qgreat qup qdown out_371 kept_372 sizes_373 rows_374 taken_375 qsize qrows qwork qxx qpower) H := hP.sub [6, 7, 8, 9, 10, 11, 12, 0, 1, 2, 3, 4, 5] rfl
                                        have hD : va_D A (wL o0 a0 a1 a2 a3 a4 a5 m0 m1 m2 m3 m4 m5 co c1 c2 c4 c5 k1 k2 k3 k4 k5 made_368 size_369 tooG_370 qcode qfuns qmade qgreat qup qdown out_371 kept_372 sizes_373 rows_374 taken_375 qsize qrows qwork qxx qpower) := hD.sub [6, 7, 8, 9, 10, 11, 12, 0, 1, 2, 3, 4, 5] (by decide) rfl
                                        refine W.widen (k := 13 + 4 * (k + 1)) (n := 12939 + 24 * (k + 1)) (by omega) (by omega) ?_
                                        refine lv_istore (lv' := [(5, .int r367), (0, .ref b), (1, .ref a0), (2, .ref m0), (3, .ref o0), (4, .int x4)]) hx hb d_L_law_1169 hl (by decide) rfl (fun ls hl => ?_)
                                        refine lv_aload_n hx hb d_L_law_1171 rfl (lv_at hl 3 rfl) ?_
                                        refine lv_aload_n hx hb d_L_law_1172 rfl (lv_at hl 1 rfl) ?_
                                        refine lv_iload hx hb d_L_law_1173 (lv_at hl 5 rfl) ?_
                                        refine lv_iconst (v := 1) hx hb d_L_law_1175 (by decide) ?_
                                        refine lv_iadd hx hb d_L_law_1176 ?_
                                        refine va_sld hx hb hX hbl hbA hS hi1 d_L_law_1177 ?_
                                        rw [← es1]
                                        have hPc := hP.sub (ws' := (wM m0 m1 m2 m3 m4 m5 k1 k2 k3 k4 k5 qcode qfuns qmade qgreat qup qdown qsize qrows qwork qxx qpower)) [7, 8, 9, 10, 11, 12] rfl
                                        have hDc := hD.sub (ws' := (wM m0 m1 m2 m3 m4 m5 k1 k2 k3 k4 k5 qcode qfuns qmade qgreat qup qdown qsize qrows qwork qxx qpower)) [7, 8, 9, 10, 11, 12] (by decide) rfl
                                        have hKc := hK.sub (tys' := [(k1, .int), (k2, .int), (k3, .int), (k4, .int), (k5, .int)]) [5, 6, 7, 8, 9] rfl
                                        have hFc := va_free (wc := (wM m0 m1 m2 m3 m4 m5 k1 k2 k3 k4 k5 qcode qfuns qmade qgreat qup qdown qsize qrows qwork qxx qpower)) hD hS hA [7, 8, 9, 10, 11, 12] rfl
                                        refine va_calli (va_runV (As := [.int s1]) (rest := []) ⟨hx, hb, hml, hown, hB⟩ (c_M_fastest l D m0 m1 m2 m3 m4 m5 k1 k2 k3 k4 k5 H.size qcode qfuns qmade qgreat qup qdown qsize qrows qwork qxx qpower s1 _) (cwV 1 hB (goodV wd_480 wd_481 wd_482 wd_3 wd_483) rfl rfl rfl (by decide +kernel) ⟨Nat.le_of_ble_eq_true rfl, Nat.le_of_ble_eq_true rfl⟩) ⟨pcG_blind, va_recv hKc hPc (ci := 2) (q0 := 0) rfl rfl, pcG_pre hPc hKc hDc h⟩ rfl rfl hl.1 rfl (lv_room (Nat.le_of_ble_eq_true rfl)) d_L_law_1178 ⟨by show _ ≤ 601024; omega, by show _ ≤ 7293034; omega⟩) hS (fun q _ h => hFc q h) hFc (fun r376 qcode_377 t H1 locs ht hvm h hBu hz1 hk1 hS => ?_)
                                        obtain ⟨hP1, hK1, hD1⟩ := hBu
                                        rw [ht] at hP1
                                        obtain ⟨hP, hD⟩ := va_join (wr := [(o0, .inl (co, 1, .inr (.inl out_371))), (a0, .inr (1, [.ref a1, .ref a2, .ref a3, .int made_368])), (a1, .inl (c1, 5600, .inl kept_372)), (a2, .inl (c2, 80, .inl sizes_373)), (a3, .inr (0, [.ref a4, .ref a5, .int size_369, .int tooG_370])), (a4, .inl (c4, 700, .inl rows_374)), (a5, .inl (c5, 7, .inl taken_375))]) (w1 := (wM m0 m1 m2 m3 m4 m5 k1 k2 k3 k4 k5 qcode_377 qfuns qmade qgreat qup qdown qsize qrows qwork qxx qpower)) hP hD [7, 8, 9, 10, 11, 12] [0, 1, 2, 3, 4, 5, 6] rfl rfl (by decide) (by decide) hk1 hFc hP1 hD1
                                        generalize H1 = H at hP hS ⊢
                                        have hP : va_P D vwCl (wL o0 a0 a1 a2 a3 a4 a5 m0 m1 m2 m3 m4 m5 co c1 c2 c4 c5 k1 k2 k3 k4 k5 made_368 size_369 tooG_370 qcode_377 qfuns qmade qgreat qup qdown out_371 kept_372 sizes_373 rows_374 taken_375 qsize qrows qwork qxx qpower) H := hP.sub [0, 1, 2, 3, 4, 5, 6, 7, 8, 9, 10, 11, 12] rfl
                                        have hD : va_D A (wL o0 a0 a1 a2 a3 a4 a5 m0 m1 m2 m3 m4 m5 co c1 c2 c4 c5 k1 k2 k3 k4 k5 made_368 size_369 tooG_370 qcode_377 qfuns qmade qgreat qup qdown out_371 kept_372 sizes_373 rows_374 taken_375 qsize qrows qwork qxx qpower) := hD.sub [0, 1, 2, 3, 4, 5, 6, 7, 8, 9, 10, 11, 12] (by decide) rfl
                                        refine W.widen (k := 13 + 4 * (k + 1)) (n := 12939 + 24 * (k + 1)) (by omega) (by omega) ?_
                                        refine lv_istore (lv' := [(6, .int r376), (5, .int r367), (0, .ref b), (1, .ref a0), (2, .ref m0), (3, .ref o0), (4, .int x4)]) hx hb d_L_law_1181 hl (by decide) rfl (fun ls hl => ?_)
                                        refine lv_aload_n hx hb d_L_law_1183 rfl (lv_at hl 4 rfl) ?_
                                        have hPc := hP.sub (ws' := (wM m0 m1 m2 m3 m4 m5 k1 k2 k3 k4 k5 qcode_377 qfuns qmade qgreat qup qdown qsize qrows qwork qxx qpower)) [7, 8, 9, 10, 11, 12] rfl
                                        have hDc := hD.sub (ws' := (wM m0 m1 m2 m3 m4 m5 k1 k2 k3 k4 k5 qcode_377 qfuns qmade qgreat qup qdown qsize qrows qwork qxx qpower)) [7, 8, 9, 10, 11, 12] (by decide) rfl
                                        have hKc := hK.sub (tys' := [(k1, .int), (k2, .int), (k3, .int), (k4, .int), (k5, .int)]) [5, 6, 7, 8, 9] rfl
                                        have hFc := va_free (wc := (wM m0 m1 m2 m3 m4 m5 k1 k2 k3 k4 k5 qcode_377 qfuns qmade qgreat qup qdown qsize qrows qwork qxx qpower)) hD hS hA [7, 8, 9, 10, 11, 12] rfl
                                        refine va_calli (va_runV (As := []) (rest := []) ⟨hx, hb, hml, hown, hB⟩ (c_M_thrown l D m0 m1 m2 m3 m4 m5 k1 k2 k3 k4 k5 H.size qcode_377 qfuns qmade qgreat qup qdown qsize qrows qwork qxx qpower _) (cwV 0 hB (goodV wd_349 wd_350 wd_351 wd_3 wd_352) rfl rfl rfl (by decide +kernel) ⟨Nat.le_of_ble_eq_true rfl, Nat.le_of_ble_eq_true rfl⟩) ⟨pcG_blind, va_recv hKc hPc (ci := 2) (q0 := 0) rfl rfl, pcG_pre hPc hKc hDc h⟩ rfl rfl hl.1 rfl (lv_room (Nat.le_of_ble_eq_true rfl)) d_L_law_1184 ⟨by show _ ≤ 601024; omega, by show _ ≤ 7293034; omega⟩) hS (fun q _ h => hFc q h) hFc (fun r378 u t H1 locs ht hvm h hBu hz1 hk1 hS => ?_)
                                        obtain ⟨hP1, hK1, hD1⟩ := hBu
                                        rw [ht] at hP1
                                        obtain ⟨hP, hD⟩ := va_join (wr := [(o0, .inl (co, 1, .inr (.inl out_371))), (a0, .inr (1, [.ref a1, .ref a2, .ref a3, .int made_368])), (a1, .inl (c1, 5600, .inl kept_372)), (a2, .inl (c2, 80, .inl sizes_373)), (a3, .inr (0, [.ref a4, .ref a5, .int size_369, .int tooG_370])), (a4, .inl (c4, 700, .inl rows_374)), (a5, .inl (c5, 7, .inl taken_375))]) (w1 := (wM m0 m1 m2 m3 m4 m5 k1 k2 k3 k4 k5 qcode_377 qfuns qmade qgreat qup qdown qsize qrows qwork qxx qpower)) hP hD [7, 8, 9, 10, 11, 12] [0, 1, 2, 3, 4, 5, 6] rfl rfl (by decide) (by decide) hk1 hFc hP1 hD1
                                        generalize H1 = H at hP hS ⊢
                                        have hP : va_P D vwCl (wL o0 a0 a1 a2 a3 a4 a5 m0 m1 m2 m3 m4 m5 co c1 c2 c4 c5 k1 k2 k3 k4 k5 made_368 size_369 tooG_370 qcode_377 qfuns qmade qgreat qup qdown out_371 kept_372 sizes_373 rows_374 taken_375 qsize qrows qwork qxx qpower) H := hP.sub [0, 1, 2, 3, 4, 5, 6, 7, 8, 9, 10, 11, 12] rfl
                                        have hD : va_D A (wL o0 a0 a1 a2 a3 a4 a5 m0 m1 m2 m3 m4 m5 co c1 c2 c4 c5 k1 k2 k3 k4 k5 made_368 size_369 tooG_370 qcode_377 qfuns qmade qgreat qup qdown out_371 kept_372 sizes_373 rows_374 taken_375 qsize qrows qwork qxx qpower) := hD.sub [0, 1, 2, 3, 4, 5, 6, 7, 8, 9, 10, 11, 12] (by decide) rfl
                                        refine W.widen (k := 13 + 4 * (k + 1)) (n := 12939 + 24 * (k + 1)) (by omega) (by omega) ?_
                                        refine lv_iload hx hb d_L_law_1187 (lv_at hl 1 rfl) ?_
                                        refine lv_icmp_eq (tgt := 1194) hx hb d_L_law_1189 (by decide) (fun hc379 => ?_) (fun hc379 => ?_)
                                        · replace h := h.1 hc379
                                          refine lv_iload hx hb d_L_law_1194 (lv_at hl 1 rfl) ?_
                                          refine lv_if_ne (tgt := 1211) hx hb d_L_law_1196 (by decide) (fun hc380 => ?_) (fun hc380 => ?_)
                                          · replace h := h.1 hc380
                                            refine lv_goto (tgt := 1227) hx hb d_L_law_1211 (by decide) ?_
                                            obtain ⟨x381, ex381⟩ : ∃ z : Int32, z = x4 + 4 := ⟨_, rfl⟩
                                            refine lv_iinc (v := x381) (lv' := [(4, .int x381), (6, .int r376), (5, .int r367), (0, .ref b), (1, .ref a0), (2, .ref m0), (3, .ref o0)]) hx hb d_L_law_1227 hl (k := 6) rfl (by rw [ex381]; rfl) (by decide) rfl (fun ls hl => ?_)
                                            refine lv_goto (tgt := 23) hx hb d_L_law_1230 (by decide) ?_
                                            exact ihn (k + 1) x381 made_368 size_369 tooG_370 qcode_377 qfuns qmade qgreat qup qdown out_371 kept_372 sizes_373 rows_374 taken_375 qsize qrows qwork qxx qpower _ _ _ (by omega) (by omega) (by rw [ex381, ex4]; exact (nI_add _ 4).trans (by rw [show 4 * (k + 1) = 4 * k + 4 by omega])) h hP hD hS (lv_sub hl [3, 4, 5, 6, 0] rfl)
                                          · replace h := h.2 hc380
                                            refine lv_aload_n hx hb d_L_law_1199 rfl (lv_at hl 5 rfl) ?_
                                            refine lv_iconst (v := 0) hx hb d_L_law_1200 (by decide) ?_
                                            obtain ⟨g382, h⟩ := h
                                            refine va_lald hx hb hK hP 0 0 rfl rfl g382 d_L_law_1201 ?_
                                            refine lv_iload hx hb d_L_law_1202 (lv_at hl 0 rfl) ?_
                                            refine lv_i2l hx hb d_L_law_1204 rfl ?_
                                            refine W.lcmp hx hb d_L_law_1205 ?_
                                            refine lv_if_eq (tgt := 1211) hx hb d_L_law_1206 (by decide) (fun hc383 => ?_) (fun hc383 => ?_)
                                            · replace h := h.1 hc383
                                              refine lv_goto (tgt := 1227) hx hb d_L_law_1211 (by decide) ?_
                                              obtain ⟨x384, ex384⟩ : ∃ z : Int32, z = x4 + 4 := ⟨_, rfl⟩
                                              refine lv_iinc (v := x384) (lv' := [(4, .int x384), (6, .int r376), (5, .int r367), (0, .ref b), (1, .ref a0), (2, .ref m0), (3, .ref o0)]) hx hb d_L_law_1227 hl (k := 6) rfl (by rw [ex384]; rfl) (by decide) rfl (fun ls hl => ?_)
                                              refine lv_goto (tgt := 23) hx hb d_L_law_1230 (by decide) ?_
                                              exact ihn (k + 1) x384 made_368 size_369 tooG_370 qcode_377 qfuns qmade qgreat qup qdown out_371 kept_372 sizes_373 rows_374 taken_375 qsize qrows qwork qxx qpower _ _ _ (by omega) (by omega) (by rw [ex384, ex4]; exact (nI_add _ 4).trans (by rw [show 4 * (k + 1) = 4 * k + 4 by omega])) h hP hD hS (lv_sub hl [3, 4, 5, 6, 0] rfl)
                                            · replace h := h.2 hc383
                                              refine lv_iconst (v := 0) hx hb d_L_law_1209 (by decide) ?_
                                              exact (show False from h).elim
                                        · replace h := h.2 hc379
                                          refine lv_iconst (v := 0) hx hb d_L_law_1192 (by decide) ?_
                                          exact (show False from h).elim
                                      · replace h := h.2 t16
                                        by_cases t17 : sw = 17
                                        · replace h := h.1 t17
                                          clear esw
                                          subst t17
                                          refine lv_tableIn (off := 1175) (tgt := 1214) hx hb d_L_law_39 (by decide) (by decide) (by decide +kernel) (by decide) ?_
                                          refine lv_aload_n hx hb d_L_law_1214 rfl (lv_at hl 1 rfl) ?_
                                          have hPc := hP.sub (ws' := (wG a0 a1 a2 a3 a4 a5 c1 c2 c4 c5 made size tooG kept sizes rows taken)) [1, 2, 3, 4, 5, 6] rfl
                                          have hDc := hD.sub (ws' := (wG a0 a1 a2 a3 a4 a5 c1 c2 c4 c5 made size tooG kept sizes rows taken)) [1, 2, 3, 4, 5, 6] (by decide) rfl
                                          have hKc := hK.sub (tys' := [(c1, .int), (c2, .int), (c4, .int), (c5, .int)]) [1, 2, 3, 4] rfl
                                          have hFc := va_free (wc := (wG a0 a1 a2 a3 a4 a5 c1 c2 c4 c5 made size tooG kept sizes rows taken)) hD hS hA [1, 2, 3, 4, 5, 6] rfl
                                          refine va_calli (va_runV (As := []) (rest := []) ⟨hx, hb, hml, hown, hB⟩ (c_G_count l D a0 a1 a2 a3 a4 a5 c1 c2 c4 c5 H.size made size tooG kept sizes rows taken _) (cwV 0 hB (goodV wd_39 wd_40 wd_41 wd_1 wd_42) rfl rfl rfl (by decide +kernel) ⟨Nat.le_of_ble_eq_true rfl, Nat.le_of_ble_eq_true rfl⟩) ⟨pcX_blind, va_recv hKc hPc (ci := 1) (q0 := 0) rfl rfl, pcX_pre hPc hKc hDc hS hXH.1 hFc h⟩ rfl rfl hl.1 rfl (lv_room (Nat.le_of_ble_eq_true rfl)) d_L_law_1215 ⟨by show _ ≤ 601024; omega, by show _ ≤ 7293034; omega⟩) hS (fun q _ h => hFc q h) hFc (fun r385 u t H1 locs ht hvm h hBu hz1 hk1 hS => ?_)
                                          obtain ⟨hP1, hK1, hD1⟩ := hBu
                                          rw [ht] at hP1
                                          obtain ⟨hP, hD⟩ := va_join (wr := [(o0, .inl (co, 1, .inr (.inl out))), (m0, .inr (2, [.int qcode, .int qfuns, .ref m1, .ref m2, .int qmade, .ref m3, .int qgreat, .ref m4, .ref m5, .long qup, .long qdown])), (m1, .inl (k1, 80, .inl qsize)), (m2, .inl (k2, 5600, .inl qrows)), (m3, .inl (k3, 840, .inl qwork)), (m4, .inl (k4, 7, .inl qxx)), (m5, .inl (k5, 5, .inl qpower))]) (w1 := (wG a0 a1 a2 a3 a4 a5 c1 c2 c4 c5 made size tooG kept sizes rows taken)) hP hD [1, 2, 3, 4, 5, 6] [0, 7, 8, 9, 10, 11, 12] rfl rfl (by decide) (by decide) hk1 hFc hP1 hD1
                                          generalize H1 = H at hP hS ⊢
                                          have hP : va_P D vwCl (wL o0 a0 a1 a2 a3 a4 a5 m0 m1 m2 m3 m4 m5 co c1 c2 c4 c5 k1 k2 k3 k4 k5 made size tooG qcode qfuns qmade qgreat qup qdown out kept sizes rows taken qsize qrows qwork qxx qpower) H := hP.sub [0, 7, 8, 9, 10, 11, 12, 1, 2, 3, 4, 5, 6] rfl
                                          have hD : va_D A (wL o0 a0 a1 a2 a3 a4 a5 m0 m1 m2 m3 m4 m5 co c1 c2 c4 c5 k1 k2 k3 k4 k5 made size tooG qcode qfuns qmade qgreat qup qdown out kept sizes rows taken qsize qrows qwork qxx qpower) := hD.sub [0, 7, 8, 9, 10, 11, 12, 1, 2, 3, 4, 5, 6] (by decide) rfl
                                          refine W.widen (k := 13 + 4 * k) (n := 12939 + 24 * k) (by omega) (by omega) ?_
                                          refine lv_aload_n hx hb d_L_law_1218 rfl (lv_at hl 2 rfl) ?_
                                          have hPc := hP.sub (ws' := (wM m0 m1 m2 m3 m4 m5 k1 k2 k3 k4 k5 qcode qfuns qmade qgreat qup qdown qsize qrows qwork qxx qpower)) [7, 8, 9, 10, 11, 12] rfl
                                          have hDc := hD.sub (ws' := (wM m0 m1 m2 m3 m4 m5 k1 k2 k3 k4 k5 qcode qfuns qmade qgreat qup qdown qsize qrows qwork qxx qpower)) [7, 8, 9, 10, 11, 12] (by decide) rfl
                                          have hKc := hK.sub (tys' := [(k1, .int), (k2, .int), (k3, .int), (k4, .int), (k5, .int)]) [5, 6, 7, 8, 9] rfl
                                          have hFc := va_free (wc := (wM m0 m1 m2 m3 m4 m5 k1 k2 k3 k4 k5 qcode qfuns qmade qgreat qup qdown qsize qrows qwork qxx qpower)) hD hS hA [7, 8, 9, 10, 11, 12] rfl
                                          refine va_calli (va_runV (As := []) (rest := [.int r385]) ⟨hx, hb, hml, hown, hB⟩ (c_M_count l D m0 m1 m2 m3 m4 m5 k1 k2 k3 k4 k5 H.size qcode qfuns qmade qgreat qup qdown qsize qrows qwork qxx qpower _) (cwV 0 hB (goodV wd_484 wd_485 wd_486 wd_3 wd_487) rfl rfl rfl (by decide +kernel) ⟨Nat.le_of_ble_eq_true rfl, Nat.le_of_ble_eq_true rfl⟩) ⟨pcG_blind, va_recv hKc hPc (ci := 2) (q0 := 0) rfl rfl, pcG_pre hPc hKc hDc h⟩ rfl rfl hl.1 rfl (lv_room (Nat.le_of_ble_eq_true rfl)) d_L_law_1219 ⟨by show _ ≤ 601024; omega, by show _ ≤ 7293034; omega⟩) hS (fun q _ h => hFc q h) hFc (fun r386 qcode_387 t H1 locs ht hvm h hBu hz1 hk1 hS => ?_)
                                          obtain ⟨hP1, hK1, hD1⟩ := hBu
                                          rw [ht] at hP1
                                          obtain ⟨hP, hD⟩ := va_join (wr := [(o0, .inl (co, 1, .inr (.inl out))), (a0, .inr (1, [.ref a1, .ref a2, .ref a3, .int made])), (a1, .inl (c1, 5600, .inl kept)), (a2, .inl (c2, 80, .inl sizes)), (a3, .inr (0, [.ref a4, .ref a5, .int size, .int tooG])), (a4, .inl (c4, 700, .inl rows)), (a5, .inl (c5, 7, .inl taken))]) (w1 := (wM m0 m1 m2 m3 m4 m5 k1 k2 k3 k4 k5 qcode_387 qfuns qmade qgreat qup qdown qsize qrows qwork qxx qpower)) hP hD [7, 8, 9, 10, 11, 12] [0, 1, 2, 3, 4, 5, 6] rfl rfl (by decide) (by decide) hk1 hFc hP1 hD1
                                          generalize H1 = H at hP hS ⊢
                                          have hP : va_P D vwCl (wL o0 a0 a1 a2 a3 a4 a5 m0 m1 m2 m3 m4 m5 co c1 c2 c4 c5 k1 k2 k3 k4 k5 made size tooG qcode_387 qfuns qmade qgreat qup qdown out kept sizes rows taken qsize qrows qwork qxx qpower) H := hP.sub [0, 1, 2, 3, 4, 5, 6, 7, 8, 9, 10, 11, 12] rfl
                                          have hD : va_D A (wL o0 a0 a1 a2 a3 a4 a5 m0 m1 m2 m3 m4 m5 co c1 c2 c4 c5 k1 k2 k3 k4 k5 made size tooG qcode_387 qfuns qmade qgreat qup qdown out kept sizes rows taken qsize qrows qwork qxx qpower) := hD.sub [0, 1, 2, 3, 4, 5, 6, 7, 8, 9, 10, 11, 12] (by decide) rfl
                                          refine W.widen (k := 13 + 4 * k) (n := 12939 + 24 * k) (by omega) (by omega) ?_
                                          refine lv_icmp_eq (tgt := 1227) hx hb d_L_law_1222 (by decide) (fun hc388 => ?_) (fun hc388 => ?_)
                                          · replace h := h.1 hc388
                                            obtain ⟨x389, ex389⟩ : ∃ z : Int32, z = x4 + 4 := ⟨_, rfl⟩
                                            refine lv_iinc (v := x389) (lv' := [(4, .int x389), (0, .ref b), (1, .ref a0), (2, .ref m0), (3, .ref o0)]) hx hb d_L_law_1227 hl (k := 4) rfl (by rw [ex389]; rfl) (by decide) rfl (fun ls hl => ?_)
                                            refine lv_goto (tgt := 23) hx hb d_L_law_1230 (by decide) ?_
                                            refine W.widen (k := 13 + 4 * (k + 1)) (n := 12939 + 24 * (k + 1)) (by omega) (by omega) ?_
                                            exact ihn (k + 1) x389 made size tooG qcode_387 qfuns qmade qgreat qup qdown out kept sizes rows taken qsize qrows qwork qxx qpower _ _ _ (by omega) (by omega) (by rw [ex389, ex4]; exact (nI_add _ 4).trans (by rw [show 4 * (k + 1) = 4 * k + 4 by omega])) h hP hD hS (lv_sub hl [1, 2, 3, 4, 0] rfl)
                                          · replace h := h.2 hc388
                                            refine lv_iconst (v := 0) hx hb d_L_law_1225 (by decide) ?_
                                            exact (show False from h).elim
                                        · replace h := h.2 t17
                                          refine lv_tableOut (tgt := 1227) hx hb d_L_law_39 (sw_out t0 t1 t2 t3 t4 t5 t6 t7 t8 t9 t10 t11 t12 t13 t14 t15 t16 t17) (by decide) ?_
                                          obtain ⟨x390, ex390⟩ : ∃ z : Int32, z = x4 + 4 := ⟨_, rfl⟩
                                          refine lv_iinc (v := x390) (lv' := [(4, .int x390), (0, .ref b), (1, .ref a0), (2, .ref m0), (3, .ref o0)]) hx hb d_L_law_1227 hl (k := 4) rfl (by rw [ex390]; rfl) (by decide) rfl (fun ls hl => ?_)
                                          refine lv_goto (tgt := 23) hx hb d_L_law_1230 (by decide) ?_
                                          refine W.widen (k := 13 + 4 * (k + 1)) (n := 12939 + 24 * (k + 1)) (by omega) (by omega) ?_
                                          exact ihn (k + 1) x390 made size tooG qcode qfuns qmade qgreat qup qdown out kept sizes rows taken qsize qrows qwork qxx qpower _ _ _ (by omega) (by omega) (by rw [ex390, ex4]; exact (nI_add _ 4).trans (by rw [show 4 * (k + 1) = 4 * k + 4 by omega])) h hP hD hS (lv_sub hl [1, 2, 3, 4, 0] rfl)
