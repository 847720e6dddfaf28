theorem vpc (cA : ClassId) (n : Nat) : vp_cell cA (n, .inl (fun _ => 0)) = arrV cA n (fun _ => defaultValue .int) := rfl
set_option maxHeartbeats 4000000 in
set_option maxRecDepth 100000 in
theorem c_W_init (l : Launch) (D : va_G) (h0 sz : Nat) : Met l y_W_init (Cond.code y_W_init b_W_init 1 none :: BIG) ({ frames := 1, cells := 2, slots := 707, locals := 12 }) (va_Pc [.ref h0] (pcG D vwCl [(h0, .inr (0, [.null, .null, .int 0, .int 0]))] [] sz True)) (va_Qv (fun _ : Nat × Nat × ClassId × ClassId => True) (fun u => atG D vwCl [(u.2.2.1, .int), (u.2.2.2, .int)] (va_A [(h0, .inr (0, [.null, .null, .int 0, .int 0]))] sz) [(h0, .inr (0, [.ref u.1, .ref u.2.1, .int 0, .int 0])), (u.1, .inl (u.2.2.1, 700, .inl (fun _ => 0))), (u.2.1, .inl (u.2.2.2, 7, .inl (fun _ => 0)))]) (va_A [(h0, .inr (0, [.null, .null, .int 0, .int 0]))] sz)) 2 707 (va_A [(h0, .inr (0, [.null, .null, .int 0, .int 0]))] sz) := by
  refine Met.ofW (cc := b_W_init) (maxL := 1) (ret := none) (by decide) rfl ?_
  intro p e s m args below meth c s₁ B hml hv
  obtain ⟨rfl, hsz, hP, hK, hD0, -⟩ := hv
  have hx := B.exec
  have hb := B.bytes
  have hr := B.returns
  have hB : ∀ w ∈ BIG, w.before _ s = true := fun w h => atoms_spec (ws := (Cond.code y_W_init b_W_init 1 none :: BIG)) B.pre w (List.mem_cons_of_mem _ h)
  have hown : s.vm.findClass R_W = some m.cls := findClass_of_methodNamed B.named
  have hlocks := B.notSynchronized
  have hin : meth.name = "<init>" := (name_of_methodNamed B.named B.method).1
  subst hsz
  have hD := hD0.self (sz := s.heap.size)
  generalize hAe : va_A [(h0, .inr (0, [.null, .null, .int 0, .int 0]))] s.heap.size = A at hD ⊢
  have hA : ∀ q : Nat, s.heap.size ≤ q → A q := fun q h => by rw [← hAe]; exact Or.inr h
  have hS : va_S A s.heap s.heap [] := va_S.rf
  have hl := lv_entry ([.ref h0]) (n := 1) (Nat.le_of_ble_eq_true rfl)
  rw [lg_entry_eq]
  generalize (lg_sl ([.ref h0]) ++ List.replicate (1 - (lg_sl ([.ref h0])).length) Slot.unset).toArray = ls at hl ⊢
  have hl : lv_has ls 1 [(0, .ref h0)] := hl
  refine lv_aload_n hx hb d_W_init_0 rfl (lv_at hl 0 rfl) ?_
  refine W.objInit hx hb hown (hB _ wd_26) (hB _ wd_19) (hB _ wd_20) rfl (by rw [hml]; exact hl.1) rfl d_W_init_1 (Nat.le_of_ble_eq_true rfl) (Nat.le_of_ble_eq_true rfl) ?_
  refine W.eq (g2 := F0 m 4 ls []) rfl ?_
  refine lv_aload_n hx hb d_W_init_4 rfl (lv_at hl 0 rfl) ?_
  refine lv_sipush (v := 700) hx hb d_W_init_5 (by decide) ?_
  refine va_newa (atype := .int) (ty := .int) hx hb (hB _ wd_34) rfl hK hP hD hS hA (N' := 700) (a0 := (700, .inl (fun _ => 0))) (fun cA => vpc cA _) (by decide +kernel) (by decide +kernel) (by decide +kernel) (show 0 + 1 ≤ 2 from by decide) (show 0 + 700 ≤ 707 from by decide +kernel) d_W_init_8 (fun q1 d1 H hK hP hD hS => ?_)
  have hK : va_K D vwCl [(d1, .int)] s := hK
  have hP : va_P D vwCl [(h0, .inr (0, [.null, .null, .int 0, .int 0])), (q1, .inl (d1, 700, .inl (fun _ => 0)))] H := hP
  have hD : va_D A [(h0, .inr (0, [.null, .null, .int 0, .int 0])), (q1, .inl (d1, 700, .inl (fun _ => 0)))] := hD
  refine W.widen (k := 1) (n := 700) (by omega) (by omega) ?_
  refine va_putF (D := D) (ci := 0) (v := .ref q1) (ty := .array .int) (C := R_W) (T := F_W) (N := 4) hx hb hB inF_W t_W t_W_ok n_W hown hK hP hD hS 0 rfl rfl 0 (by decide) (hB _ wd_27) (fun _ h9 => h9) rfl hin rfl (by decide +kernel) rfl rfl (Nat.le_of_ble_eq_true rfl) d_W_init_10 (fun H locs hP hD hS => ?_)
  have hP : va_P D vwCl [(h0, .inr (0, [.ref q1, .null, .int 0, .int 0])), (q1, .inl (d1, 700, .inl (fun _ => 0)))] H := hP
  have hD : va_D A [(h0, .inr (0, [.ref q1, .null, .int 0, .int 0])), (q1, .inl (d1, 700, .inl (fun _ => 0)))] := hD
  refine lv_aload_n hx hb d_W_init_13 rfl (lv_at hl 0 rfl) ?_
  refine lv_bipush (v := 7) hx hb d_W_init_14 (by decide) ?_
  refine va_newa (atype := .int) (ty := .int) hx hb (hB _ wd_34) rfl hK hP hD hS hA (N' := 7) (a0 := (7, .inl (fun _ => 0))) (fun cA => vpc cA _) (by decide +kernel) (by decide +kernel) (by decide +kernel) (show 1 + 1 ≤ 2 from by decide) (show 700 + 7 ≤ 707 from by decide +kernel) d_W_init_16 (fun q2 d2 H hK hP hD hS => ?_)
  have hK : va_K D vwCl [(d1, .int), (d2, .int)] s := hK
  have hP : va_P D vwCl [(h0, .inr (0, [.ref q1, .null, .int 0, .int 0])), (q1, .inl (d1, 700, .inl (fun _ => 0))), (q2, .inl (d2, 7, .inl (fun _ => 0)))] H := hP
  have hD : va_D A [(h0, .inr (0, [.ref q1, .null, .int 0, .int 0])), (q1, .inl (d1, 700, .inl (fun _ => 0))), (q2, .inl (d2, 7, .inl (fun _ => 0)))] := hD
  refine W.widen (k := 2) (n := 707) (by omega) (by omega) ?_
  refine va_putF (D := D) (ci := 0) (v := .ref q2) (ty := .array .int) (C := R_W) (T := F_W) (N := 4) hx hb hB inF_W t_W t_W_ok n_W hown hK hP hD hS 0 rfl rfl 1 (by decide) (hB _ wd_29) (fun _ h9 => h9) rfl hin rfl (by decide +kernel) rfl rfl (Nat.le_of_ble_eq_true rfl) d_W_init_18 (fun H locs hP hD hS => ?_)
  have hP : va_P D vwCl [(h0, .inr (0, [.ref q1, .ref q2, .int 0, .int 0])), (q1, .inl (d1, 700, .inl (fun _ => 0))), (q2, .inl (d2, 7, .inl (fun _ => 0)))] H := hP
  have hD : va_D A [(h0, .inr (0, [.ref q1, .ref q2, .int 0, .int 0])), (q1, .inl (d1, 700, .inl (fun _ => 0))), (q2, .inl (d2, 7, .inl (fun _ => 0)))] := hD
  refine lv_aload_n hx hb d_W_init_21 rfl (lv_at hl 0 rfl) ?_
  refine lv_iconst (v := 0) hx hb d_W_init_22 (by decide) ?_
  refine va_put (D := D) (ci := 0) (v := .int 0) (ty := .int) (C := R_W) (T := F_W) (N := 4) hx hb hB inF_W t_W t_W_ok n_W hown hK hP hD hS 0 rfl rfl 2 (by decide) (hB _ wd_30) (fun _ h9 => h9) rfl (by decide +kernel) rfl rfl (Nat.le_of_ble_eq_true rfl) d_W_init_23 (fun H locs hP hD hS => ?_)
  have hP : va_P D vwCl [(h0, .inr (0, [.ref q1, .ref q2, .int 0, .int 0])), (q1, .inl (d1, 700, .inl (fun _ => 0))), (q2, .inl (d2, 7, .inl (fun _ => 0)))] H := hP
  have hD : va_D A [(h0, .inr (0, [.ref q1, .ref q2, .int 0, .int 0])), (q1, .inl (d1, 700, .inl (fun _ => 0))), (q2, .inl (d2, 7, .inl (fun _ => 0)))] := hD
  refine lv_aload_n hx hb d_W_init_26 rfl (lv_at hl 0 rfl) ?_
  refine lv_iconst (v := 0) hx hb d_W_init_27 (by decide) ?_
  refine va_put (D := D) (ci := 0) (v := .int 0) (ty := .boolean) (C := R_W) (T := F_W) (N := 4) hx hb hB inF_W t_W t_W_ok n_W hown hK hP hD hS 0 rfl rfl 3 (by decide) (hB _ wd_32) (fun _ h9 => h9) rfl (by decide +kernel) rfl rfl (Nat.le_of_ble_eq_true rfl) d_W_init_28 (fun H locs hP hD hS => ?_)
  have hP : va_P D vwCl [(h0, .inr (0, [.ref q1, .ref q2, .int 0, .int 0])), (q1, .inl (d1, 700, .inl (fun _ => 0))), (q2, .inl (d2, 7, .inl (fun _ => 0)))] H := hP
  have hD : va_D A [(h0, .inr (0, [.ref q1, .ref q2, .int 0, .int 0])), (q1, .inl (d1, 700, .inl (fun _ => 0))), (q2, .inl (d2, 7, .inl (fun _ => 0)))] := hD
  exact W.vret hx hb hr (fun t ht hW => ⟨⟨(q1, q2, d1, d2), rfl, trivial, by rw [ht]; exact hP, va_K.moved hW.alike hK, hD⟩, hS.F ht⟩) hS.2.2 d_W_init_31
set_option maxHeartbeats 4000000 in
set_option maxRecDepth 100000 in
theorem c_G_init (l : Launch) (D : va_G) (h0 sz : Nat) : Met l y_G_init (Cond.code y_G_init b_G_init 1 none :: BIG) ({ frames := 2, cells := 5, slots := 6391, locals := 32 }) (va_Pc [.ref h0] (pcG D vwCl [(h0, .inr (1, [.null, .null, .null, .int 0]))] [] sz True)) (va_Qv (fun _ : Nat × Nat × Nat × Nat × Nat × ClassId × ClassId × ClassId × ClassId => True) (fun u => atG D vwCl [(u.2.2.2.2.2.1, .int), (u.2.2.2.2.2.2.1, .int), (u.2.2.2.2.2.2.2.1, .int), (u.2.2.2.2.2.2.2.2, .int)] (va_A [(h0, .inr (1, [.null, .null, .null, .int 0]))] sz) (wG h0 u.1 u.2.1 u.2.2.1 u.2.2.2.1 u.2.2.2.2.1 u.2.2.2.2.2.1 u.2.2.2.2.2.2.1 u.2.2.2.2.2.2.2.1 u.2.2.2.2.2.2.2.2 0 0 0 (fun _ => 0) (fun _ => 0) (fun _ => 0) (fun _ => 0))) (va_A [(h0, .inr (1, [.null, .null, .null, .int 0]))] sz)) 5 6391 (va_A [(h0, .inr (1, [.null, .null, .null, .int 0]))] sz) := by
  refine Met.ofW (cc := b_G_init) (maxL := 1) (ret := none) (by decide) rfl ?_
  intro p e s m args below meth c s₁ B hml hv
  obtain ⟨rfl, hsz, hP, hK, hD0, -⟩ := hv
  have hx := B.exec
  have hb := B.bytes
  have hr := B.returns
  have hB : ∀ w ∈ BIG, w.before _ s = true := fun w h => atoms_spec (ws := (Cond.code y_G_init b_G_init 1 none :: BIG)) B.pre w (List.mem_cons_of_mem _ h)
  have hown : s.vm.findClass R_G = some m.cls := findClass_of_methodNamed B.named
  have hlocks := B.notSynchronized
  have hin : meth.name = "<init>" := (name_of_methodNamed B.named B.method).1
  subst hsz
  have hD := hD0.self (sz := s.heap.size)
  generalize hAe : va_A [(h0, .inr (1, [.null, .null, .null, .int 0]))] s.heap.size = A at hD ⊢
  have hA : ∀ q : Nat, s.heap.size ≤ q → A q := fun q h => by rw [← hAe]; exact Or.inr h
  have hS : va_S A s.heap s.heap [] := va_S.rf
  have hl := lv_entry ([.ref h0]) (n := 1) (Nat.le_of_ble_eq_true rfl)
  rw [lg_entry_eq]
  generalize (lg_sl ([.ref h0]) ++ List.replicate (1 - (lg_sl ([.ref h0])).length) Slot.unset).toArray = ls at hl ⊢
  have hl : lv_has ls 1 [(0, .ref h0)] := hl
  refine lv_aload_n hx hb d_G_init_0 rfl (lv_at hl 0 rfl) ?_
  refine W.objInit hx hb hown (hB _ wd_18) (hB _ wd_19) (hB _ wd_20) rfl (by rw [hml]; exact hl.1) rfl d_G_init_1 (Nat.le_of_ble_eq_true rfl) (Nat.le_of_ble_eq_true rfl) ?_
  refine W.eq (g2 := F0 m 4 ls []) rfl ?_
  refine lv_aload_n hx hb d_G_init_4 rfl (lv_at hl 0 rfl) ?_
  refine lv_sipush (v := 5600) hx hb d_G_init_5 (by decide) ?_
  refine va_newa (atype := .int) (ty := .int) hx hb (hB _ wd_34) rfl hK hP hD hS hA (N' := 5600) (a0 := (5600, .inl (fun _ => 0))) (fun cA => vpc cA _) (by decide +kernel) (by decide +kernel) (by decide +kernel) (show 0 + 1 ≤ 5 from by decide) (show 0 + 5600 ≤ 6391 from by decide +kernel) d_G_init_8 (fun q1 d1 H hK hP hD hS => ?_)
  have hK : va_K D vwCl [(d1, .int)] s := hK
  have hP : va_P D vwCl [(h0, .inr (1, [.null, .null, .null, .int 0])), (q1, .inl (d1, 5600, .inl (fun _ => 0)))] H := hP
  have hD : va_D A [(h0, .inr (1, [.null, .null, .null, .int 0])), (q1, .inl (d1, 5600, .inl (fun _ => 0)))] := hD
  refine W.widen (k := 1) (n := 5600) (by omega) (by omega) ?_
  refine va_putF (D := D) (ci := 1) (v := .ref q1) (ty := .array .int) (C := R_G) (T := F_G) (N := 4) hx hb hB inF_G t_G t_G_ok n_G hown hK hP hD hS 0 rfl rfl 0 (by decide) (hB _ wd_35) (fun _ h9 => h9) rfl hin rfl (by decide +kernel) rfl rfl (Nat.le_of_ble_eq_true rfl) d_G_init_10 (fun H locs hP hD hS => ?_)
  have hP : va_P D vwCl [(h0, .inr (1, [.ref q1, .null, .null, .int 0])), (q1, .inl (d1, 5600, .inl (fun _ => 0)))] H := hP
  have hD : va_D A [(h0, .inr (1, [.ref q1, .null, .null, .int 0])), (q1, .inl (d1, 5600, .inl (fun _ => 0)))] := hD
  refine lv_aload_n hx hb d_G_init_13 rfl (lv_at hl 0 rfl) ?_
  refine lv_bipush (v := 80) hx hb d_G_init_14 (by decide) ?_
  refine va_newa (atype := .int) (ty := .int) hx hb (hB _ wd_34) rfl hK hP hD hS hA (N' := 80) (a0 := (80, .inl (fun _ => 0))) (fun cA => vpc cA _) (by decide +kernel) (by decide +kernel) (by decide +kernel) (show 1 + 1 ≤ 5 from by decide) (show 5600 + 80 ≤ 6391 from by decide +kernel) d_G_init_16 (fun q2 d2 H hK hP hD hS => ?_)
  have hK : va_K D vwCl [(d1, .int), (d2, .int)] s := hK
  have hP : va_P D vwCl [(h0, .inr (1, [.ref q1, .null, .null, .int 0])), (q1, .inl (d1, 5600, .inl (fun _ => 0))), (q2, .inl (d2, 80, .inl (fun _ => 0)))] H := hP
  have hD : va_D A [(h0, .inr (1, [.ref q1, .null, .null, .int 0])), (q1, .inl (d1, 5600, .inl (fun _ => 0))), (q2, .inl (d2, 80, .inl (fun _ => 0)))] := hD
  refine W.widen (k := 2) (n := 5680) (by omega) (by omega) ?_
  refine va_putF (D := D) (ci := 1) (v := .ref q2) (ty := .array .int) (C := R_G) (T := F_G) (N := 4) hx hb hB inF_G t_G t_G_ok n_G hown hK hP hD hS 0 rfl rfl 1 (by decide) (hB _ wd_36) (fun _ h9 => h9) rfl hin rfl (by decide +kernel) rfl rfl (Nat.le_of_ble_eq_true rfl) d_G_init_18 (fun H locs hP hD hS => ?_)
  have hP : va_P D vwCl [(h0, .inr (1, [.ref q1, .ref q2, .null, .int 0])), (q1, .inl (d1, 5600, .inl (fun _ => 0))), (q2, .inl (d2, 80, .inl (fun _ => 0)))] H := hP
  have hD : va_D A [(h0, .inr (1, [.ref q1, .ref q2, .null, .int 0])), (q1, .inl (d1, 5600, .inl (fun _ => 0))), (q2, .inl (d2, 80, .inl (fun _ => 0)))] := hD
  refine lv_aload_n hx hb d_G_init_21 rfl (lv_at hl 0 rfl) ?_
  refine va_new (ci := 0) (fs := [.null, .null, .int 0, .int 0]) (C := R_W) (T := F_W) (N := 4) hx hb hB inF_W t_W t_W_ok hown (hB _ wd_21) (hB _ wd_22) (hB _ wd_2) hK hP hD hS hA rfl (fun j hj => by rcases (show j = 0 ∨ j = 1 ∨ j = 2 ∨ j = 3 by omega) with rfl | rfl | rfl | rfl <;> rfl) (show 2 + 1 ≤ 5 from by decide) (show 5680 + 4 ≤ 6391 from by decide +kernel) d_G_init_22 (fun q3 H hP hD hS => ?_)
  have hP : va_P D vwCl [(h0, .inr (1, [.ref q1, .ref q2, .null, .int 0])), (q1, .inl (d1, 5600, .inl (fun _ => 0))), (q2, .inl (d2, 80, .inl (fun _ => 0))), (q3, .inr (0, [.null, .null, .int 0, .int 0]))] H := hP
  have hD : va_D A [(h0, .inr (1, [.ref q1, .ref q2, .null, .int 0])), (q1, .inl (d1, 5600, .inl (fun _ => 0))), (q2, .inl (d2, 80, .inl (fun _ => 0))), (q3, .inr (0, [.null, .null, .int 0, .int 0]))] := hD
  refine W.widen (k := 3) (n := 5684) (by omega) (by omega) ?_
  refine lv_dup hx hb d_G_init_25 rfl ?_
  have hPc := hP.sub (ws' := [(q3, .inr (0, [.null, .null, .int 0, .int 0]))]) [3] rfl
  have hDc := hD.sub (ws' := [(q3, .inr (0, [.null, .null, .int 0, .int 0]))]) [3] (by decide) rfl
  have hKc := hK.sub (tys' := []) [] rfl
  have hFc := va_free (wc := [(q3, .inr (0, [.null, .null, .int 0, .int 0]))]) hD hS hA [3] rfl
  refine va_callv (va_runI (As := []) (rest := [.ref q3, .ref h0]) ⟨hx, hb, hml, hown, hB⟩ (c_W_init l D q3 H.size) (cwI 0 hB (goodB wd_25) rfl rfl rfl (hB _ wd_2) (hB _ wd_23) (hB _ wd_24) rfl (by decide +kernel) ⟨Nat.le_of_ble_eq_true rfl, Nat.le_of_ble_eq_true rfl⟩) ⟨pcG_blind, pcG_pre hPc hKc hDc trivial⟩ rfl rfl hl.1 rfl (lv_room (Nat.le_of_ble_eq_true rfl)) d_G_init_26 ⟨show 3 + 2 ≤ 5 from by decide, show 5684 + 707 ≤ 6391 from by decide +kernel⟩) hS (fun q _ h => hFc q h) hFc (fun u t H1 locs ht hvm hw hBu hz1 hk1 hS => ?_)
  obtain ⟨q4, q5, d4, d5⟩ := u
  obtain ⟨hP1, hK1, hD1⟩ := hBu
  rw [ht] at hP1
  have hK1 := va_K.moved hvm.symm hK1
  try dsimp only at hP1 hK1 hD1
  obtain ⟨hP, hD⟩ := va_join (wr := [(h0, .inr (1, [.ref q1, .ref q2, .null, .int 0])), (q1, .inl (d1, 5600, .inl (fun _ => 0))), (q2, .inl (d2, 80, .inl (fun _ => 0)))]) (w1 := [(q3, .inr (0, [.ref q4, .ref q5, .int 0, .int 0])), (q4, .inl (d4, 700, .inl (fun _ => 0))), (q5, .inl (d5, 7, .inl (fun _ => 0)))]) hP hD [3] [0, 1, 2] rfl rfl (by decide) (by decide) hk1 hFc hP1 hD1
  have hK := hK.app hK1
  generalize H1 = H at hP hS ⊢
  have hK : va_K D vwCl [(d1, .int), (d2, .int), (d4, .int), (d5, .int)] s := hK
  have hP : va_P D vwCl [(h0, .inr (1, [.ref q1, .ref q2, .null, .int 0])), (q1, .inl (d1, 5600, .inl (fun _ => 0))), (q2, .inl (d2, 80, .inl (fun _ => 0))), (q3, .inr (0, [.ref q4, .ref q5, .int 0, .int 0])), (q4, .inl (d4, 700, .inl (fun _ => 0))), (q5, .inl (d5, 7, .inl (fun _ => 0)))] H := hP
  have hD : va_D A [(h0, .inr (1, [.ref q1, .ref q2, .null, .int 0])), (q1, .inl (d1, 5600, .inl (fun _ => 0))), (q2, .inl (d2, 80, .inl (fun _ => 0))), (q3, .inr (0, [.ref q4, .ref q5, .int 0, .int 0])), (q4, .inl (d4, 700, .inl (fun _ => 0))), (q5, .inl (d5, 7, .inl (fun _ => 0)))] := hD
  refine W.widen (k := 5) (n := 6391) (by omega) (by omega) ?_
  refine va_putF (D := D) (ci := 1) (v := .ref q3) (ty := .object "GrowthLimits$Work") (C := R_G) (T := F_G) (N := 4) hx hb hB inF_G t_G t_G_ok n_G hown hK hP hD hS 0 rfl rfl 2 (by decide) (hB _ wd_37) (fun _ h9 => h9) rfl hin rfl (by decide +kernel) rfl rfl (Nat.le_of_ble_eq_true rfl) d_G_init_29 (fun H locs hP hD hS => ?_)
  have hP : va_P D vwCl [(h0, .inr (1, [.ref q1, .ref q2, .ref q3, .int 0])), (q1, .inl (d1, 5600, .inl (fun _ => 0))), (q2, .inl (d2, 80, .inl (fun _ => 0))), (q3, .inr (0, [.ref q4, .ref q5, .int 0, .int 0])), (q4, .inl (d4, 700, .inl (fun _ => 0))), (q5, .inl (d5, 7, .inl (fun _ => 0)))] H := hP
  have hD : va_D A [(h0, .inr (1, [.ref q1, .ref q2, .ref q3, .int 0])), (q1, .inl (d1, 5600, .inl (fun _ => 0))), (q2, .inl (d2, 80, .inl (fun _ => 0))), (q3, .inr (0, [.ref q4, .ref q5, .int 0, .int 0])), (q4, .inl (d4, 700, .inl (fun _ => 0))), (q5, .inl (d5, 7, .inl (fun _ => 0)))] := hD
  refine lv_aload_n hx hb d_G_init_32 rfl (lv_at hl 0 rfl) ?_
  refine lv_iconst (v := 0) hx hb d_G_init_33 (by decide) ?_
  refine va_put (D := D) (ci := 1) (v := .int 0) (ty := .int) (C := R_G) (T := F_G) (N := 4) hx hb hB inF_G t_G t_G_ok n_G hown hK hP hD hS 0 rfl rfl 3 (by decide) (hB _ wd_38) (fun _ h9 => h9) rfl (by decide +kernel) rfl rfl (Nat.le_of_ble_eq_true rfl) d_G_init_34 (fun H locs hP hD hS => ?_)
  have hP : va_P D vwCl [(h0, .inr (1, [.ref q1, .ref q2, .ref q3, .int 0])), (q1, .inl (d1, 5600, .inl (fun _ => 0))), (q2, .inl (d2, 80, .inl (fun _ => 0))), (q3, .inr (0, [.ref q4, .ref q5, .int 0, .int 0])), (q4, .inl (d4, 700, .inl (fun _ => 0))), (q5, .inl (d5, 7, .inl (fun _ => 0)))] H := hP
  have hD : va_D A [(h0, .inr (1, [.ref q1, .ref q2, .ref q3, .int 0])), (q1, .inl (d1, 5600, .inl (fun _ => 0))), (q2, .inl (d2, 80, .inl (fun _ => 0))), (q3, .inr (0, [.ref q4, .ref q5, .int 0, .int 0])), (q4, .inl (d4, 700, .inl (fun _ => 0))), (q5, .inl (d5, 7, .inl (fun _ => 0)))] := hD
  exact W.vret hx hb hr (fun t ht hW => ⟨⟨(q1, q2, q3, q4, q5, d1, d2, d4, d5), rfl, trivial, by rw [ht]; exact hP, va_K.moved hW.alike hK, hD⟩, hS.F ht⟩) hS.2.2 d_G_init_37
set_option maxHeartbeats 4000000 in
set_option maxRecDepth 100000 in
theorem c_M_init (l : Launch) (D : va_G) (h0 sz : Nat) : Met l y_M_init (Cond.code y_M_init b_M_init 1 none :: BIG) ({ frames := 1, cells := 5, slots := 6532, locals := 12 }) (va_Pc [.ref h0] (pcG D vwCl [(h0, .inr (2, [.int 0, .int 0, .null, .null, .int 0, .null, .int 0, .null, .null, .long 0, .long 0]))] [] sz True)) (va_Qv (fun _ : Nat × Nat × Nat × Nat × Nat × ClassId × ClassId × ClassId × ClassId × ClassId => True) (fun u => atG D vwCl [(u.2.2.2.2.2.1, .int), (u.2.2.2.2.2.2.1, .int), (u.2.2.2.2.2.2.2.1, .int), (u.2.2.2.2.2.2.2.2.1, .int), (u.2.2.2.2.2.2.2.2.2, .int)] (va_A [(h0, .inr (2, [.int 0, .int 0, .null, .null, .int 0, .null, .int 0, .null, .null, .long 0, .long 0]))] sz) (wM h0 u.1 u.2.1 u.2.2.1 u.2.2.2.1 u.2.2.2.2.1 u.2.2.2.2.2.1 u.2.2.2.2.2.2.1 u.2.2.2.2.2.2.2.1 u.2.2.2.2.2.2.2.2.1 u.2.2.2.2.2.2.2.2.2 0 0 0 0 0 0 (fun _ => 0) (fun _ => 0) (fun _ => 0) (fun _ => 0) (fun _ => 0))) (va_A [(h0, .inr (2, [.int 0, .int 0, .null, .null, .int 0, .null, .int 0, .null, .null, .long 0, .long 0]))] sz)) 5 6532 (va_A [(h0, .inr (2, [.int 0, .int 0, .null, .null, .int 0, .null, .int 0, .null, .null, .long 0, .long 0]))] sz) := by
  refine Met.ofW (cc := b_M_init) (maxL := 1) (ret := none) (by decide) rfl ?_
  intro p e s m args below meth c s₁ B hml hv
  obtain ⟨rfl, hsz, hP, hK, hD0, -⟩ := hv
  have hx := B.exec
  have hb := B.bytes
  have hr := B.returns
  have hB : ∀ w ∈ BIG, w.before _ s = true := fun w h => atoms_spec (ws := (Cond.code y_M_init b_M_init 1 none :: BIG)) B.pre w (List.mem_cons_of_mem _ h)
  have hown : s.vm.findClass R_M = some m.cls := findClass_of_methodNamed B.named
  have hlocks := B.notSynchronized
  have hin : meth.name = "<init>" := (name_of_methodNamed B.named B.method).1
  subst hsz
  have hD := hD0.self (sz := s.heap.size)
  generalize hAe : va_A [(h0, .inr (2, [.int 0, .int 0, .null, .null, .int 0, .null, .int 0, .null, .null, .long 0, .long 0]))] s.heap.size = A at hD ⊢
  have hA : ∀ q : Nat, s.heap.size ≤ q → A q := fun q h => by rw [← hAe]; exact Or.inr h
  have hS : va_S A s.heap s.heap [] := va_S.rf
  have hl := lv_entry ([.ref h0]) (n := 1) (Nat.le_of_ble_eq_true rfl)
  rw [lg_entry_eq]
  generalize (lg_sl ([.ref h0]) ++ List.replicate (1 - (lg_sl ([.ref h0])).length) Slot.unset).toArray = ls at hl ⊢
  have hl : lv_has ls 1 [(0, .ref h0)] := hl
  refine lv_aload_n hx hb d_M_init_0 rfl (lv_at hl 0 rfl) ?_
  refine W.objInit hx hb hown (hB _ wd_337) (hB _ wd_19) (hB _ wd_20) rfl (by rw [hml]; exact hl.1) rfl d_M_init_1 (Nat.le_of_ble_eq_true rfl) (Nat.le_of_ble_eq_true rfl) ?_
  refine W.eq (g2 := F0 m 4 ls []) rfl ?_
  refine lv_aload_n hx hb d_M_init_4 rfl (lv_at hl 0 rfl) ?_
  refine lv_bipush (v := 80) hx hb d_M_init_5 (by decide) ?_
  refine va_newa (atype := .int) (ty := .int) hx hb (hB _ wd_34) rfl hK hP hD hS hA (N' := 80) (a0 := (80, .inl (fun _ => 0))) (fun cA => vpc cA _) (by decide +kernel) (by decide +kernel) (by decide +kernel) (show 0 + 1 ≤ 5 from by decide) (show 0 + 80 ≤ 6532 from by decide +kernel) d_M_init_7 (fun q1 d1 H hK hP hD hS => ?_)
  have hK : va_K D vwCl [(d1, .int)] s := hK
  have hP : va_P D vwCl [(h0, .inr (2, [.int 0, .int 0, .null, .null, .int 0, .null, .int 0, .null, .null, .long 0, .long 0])), (q1, .inl (d1, 80, .inl (fun _ => 0)))] H := hP
  have hD : va_D A [(h0, .inr (2, [.int 0, .int 0, .null, .null, .int 0, .null, .int 0, .null, .null, .long 0, .long 0])), (q1, .inl (d1, 80, .inl (fun _ => 0)))] := hD
  refine W.widen (k := 1) (n := 80) (by omega) (by omega) ?_
  refine va_putF (D := D) (ci := 2) (v := .ref q1) (ty := .array .int) (C := R_M) (T := F_M) (N := 11) hx hb hB inF_M t_M t_M_ok n_M hown hK hP hD hS 0 rfl rfl 2 (by decide) (hB _ wd_340) (fun _ h9 => h9) rfl hin rfl (by decide +kernel) rfl rfl (Nat.le_of_ble_eq_true rfl) d_M_init_9 (fun H locs hP hD hS => ?_)
  have hP : va_P D vwCl [(h0, .inr (2, [.int 0, .int 0, .ref q1, .null, .int 0, .null, .int 0, .null, .null, .long 0, .long 0])), (q1, .inl (d1, 80, .inl (fun _ => 0)))] H := hP
  have hD : va_D A [(h0, .inr (2, [.int 0, .int 0, .ref q1, .null, .int 0, .null, .int 0, .null, .null, .long 0, .long 0])), (q1, .inl (d1, 80, .inl (fun _ => 0)))] := hD
  refine lv_aload_n hx hb d_M_init_12 rfl (lv_at hl 0 rfl) ?_
  refine lv_sipush (v := 5600) hx hb d_M_init_13 (by decide) ?_
  refine va_newa (atype := .int) (ty := .int) hx hb (hB _ wd_34) rfl hK hP hD hS hA (N' := 5600) (a0 := (5600, .inl (fun _ => 0))) (fun cA => vpc cA _) (by decide +kernel) (by decide +kernel) (by decide +kernel) (show 1 + 1 ≤ 5 from by decide) (show 80 + 5600 ≤ 6532 from by decide +kernel) d_M_init_16 (fun q2 d2 H hK hP hD hS => ?_)
  have hK : va_K D vwCl [(d1, .int), (d2, .int)] s := hK
  have hP : va_P D vwCl [(h0, .inr (2, [.int 0, .int 0, .ref q1, .null, .int 0, .null, .int 0, .null, .null, .long 0, .long 0])), (q1, .inl (d1, 80, .inl (fun _ => 0))), (q2, .inl (d2, 5600, .inl (fun _ => 0)))] H := hP
  have hD : va_D A [(h0, .inr (2, [.int 0, .int 0, .ref q1, .null, .int 0, .null, .int 0, .null, .null, .long 0, .long 0])), (q1, .inl (d1, 80, .inl (fun _ => 0))), (q2, .inl (d2, 5600, .inl (fun _ => 0)))] := hD
  refine W.widen (k := 2) (n := 5680) (by omega) (by omega) ?_
  refine va_putF (D := D) (ci := 2) (v := .ref q2) (ty := .array .int) (C := R_M) (T := F_M) (N := 11) hx hb hB inF_M t_M t_M_ok n_M hown hK hP hD hS 0 rfl rfl 3 (by decide) (hB _ wd_341) (fun _ h9 => h9) rfl hin rfl (by decide +kernel) rfl rfl (Nat.le_of_ble_eq_true rfl) d_M_init_18 (fun H locs hP hD hS => ?_)
  have hP : va_P D vwCl [(h0, .inr (2, [.int 0, .int 0, .ref q1, .ref q2, .int 0, .null, .int 0, .null, .null, .long 0, .long 0])), (q1, .inl (d1, 80, .inl (fun _ => 0))), (q2, .inl (d2, 5600, .inl (fun _ => 0)))] H := hP
  have hD : va_D A [(h0, .inr (2, [.int 0, .int 0, .ref q1, .ref q2, .int 0, .null, .int 0, .null, .null, .long 0, .long 0])), (q1, .inl (d1, 80, .inl (fun _ => 0))), (q2, .inl (d2, 5600, .inl (fun _ => 0)))] := hD
  refine lv_aload_n hx hb d_M_init_21 rfl (lv_at hl 0 rfl) ?_
  refine lv_sipush (v := 840) hx hb d_M_init_22 (by decide) ?_
  refine va_newa (atype := .int) (ty := .int) hx hb (hB _ wd_34) rfl hK hP hD hS hA (N' := 840) (a0 := (840, .inl (fun _ => 0))) (fun cA => vpc cA _) (by decide +kernel) (by decide +kernel) (by decide +kernel) (show 2 + 1 ≤ 5 from by decide) (show 5680 + 840 ≤ 6532 from by decide +kernel) d_M_init_25 (fun q3 d3 H hK hP hD hS => ?_)
  have hK : va_K D vwCl [(d1, .int), (d2, .int), (d3, .int)] s := hK
  have hP : va_P D vwCl [(h0, .inr (2, [.int 0, .int 0, .ref q1, .ref q2, .int 0, .null, .int 0, .null, .null, .long 0, .long 0])), (q1, .inl (d1, 80, .inl (fun _ => 0))), (q2, .inl (d2, 5600, .inl (fun _ => 0))), (q3, .inl (d3, 840, .inl (fun _ => 0)))] H := hP
  have hD : va_D A [(h0, .inr (2, [.int 0, .int 0, .ref q1, .ref q2, .int 0, .null, .int 0, .null, .null, .long 0, .long 0])), (q1, .inl (d1, 80, .inl (fun _ => 0))), (q2, .inl (d2, 5600, .inl (fun _ => 0))), (q3, .inl (d3, 840, .inl (fun _ => 0)))] := hD
  refine W.widen (k := 3) (n := 6520) (by omega) (by omega) ?_
  refine va_putF (D := D) (ci := 2) (v := .ref q3) (ty := .array .int) (C := R_M) (T := F_M) (N := 11) hx hb hB inF_M t_M t_M_ok n_M hown hK hP hD hS 0 rfl rfl 5 (by decide) (hB _ wd_343) (fun _ h9 => h9) rfl hin rfl (by decide +kernel) rfl rfl (Nat.le_of_ble_eq_true rfl) d_M_init_27 (fun H locs hP hD hS => ?_)
  have hP : va_P D vwCl [(h0, .inr (2, [.int 0, .int 0, .ref q1, .ref q2, .int 0, .ref q3, .int 0, .null, .null, .long 0, .long 0])), (q1, .inl (d1, 80, .inl (fun _ => 0))), (q2, .inl (d2, 5600, .inl (fun _ => 0))), (q3, .inl (d3, 840, .inl (fun _ => 0)))] H := hP
  have hD : va_D A [(h0, .inr (2, [.int 0, .int 0, .ref q1, .ref q2, .int 0, .ref q3, .int 0, .null, .null, .long 0, .long 0])), (q1, .inl (d1, 80, .inl (fun _ => 0))), (q2, .inl (d2, 5600, .inl (fun _ => 0))), (q3, .inl (d3, 840, .inl (fun _ => 0)))] := hD
  refine lv_aload_n hx hb d_M_init_30 rfl (lv_at hl 0 rfl) ?_
  refine lv_bipush (v := 7) hx hb d_M_init_31 (by decide) ?_
  refine va_newa (atype := .int) (ty := .int) hx hb (hB _ wd_34) rfl hK hP hD hS hA (N' := 7) (a0 := (7, .inl (fun _ => 0))) (fun cA => vpc cA _) (by decide +kernel) (by decide +kernel) (by decide +kernel) (show 3 + 1 ≤ 5 from by decide) (show 6520 + 7 ≤ 6532 from by decide +kernel) d_M_init_33 (fun q4 d4 H hK hP hD hS => ?_)
  have hK : va_K D vwCl [(d1, .int), (d2, .int), (d3, .int), (d4, .int)] s := hK
  have hP : va_P D vwCl [(h0, .inr (2, [.int 0, .int 0, .ref q1, .ref q2, .int 0, .ref q3, .int 0, .null, .null, .long 0, .long 0])), (q1, .inl (d1, 80, .inl (fun _ => 0))), (q2, .inl (d2, 5600, .inl (fun _ => 0))), (q3, .inl (d3, 840, .inl (fun _ => 0))), (q4, .inl (d4, 7, .inl (fun _ => 0)))] H := hP
  have hD : va_D A [(h0, .inr (2, [.int 0, .int 0, .ref q1, .ref q2, .int 0, .ref q3, .int 0, .null, .null, .long 0, .long 0])), (q1, .inl (d1, 80, .inl (fun _ => 0))), (q2, .inl (d2, 5600, .inl (fun _ => 0))), (q3, .inl (d3, 840, .inl (fun _ => 0))), (q4, .inl (d4, 7, .inl (fun _ => 0)))] := hD
  refine W.widen (k := 4) (n := 6527) (by omega) (by omega) ?_
  refine va_putF (D := D) (ci := 2) (v := .ref q4) (ty := .array .int) (C := R_M) (T := F_M) (N := 11) hx hb hB inF_M t_M t_M_ok n_M hown hK hP hD hS 0 rfl rfl 7 (by decide) (hB _ wd_345) (fun _ h9 => h9) rfl hin rfl (by decide +kernel) rfl rfl (Nat.le_of_ble_eq_true rfl) d_M_init_35 (fun H locs hP hD hS => ?_)
  have hP : va_P D vwCl [(h0, .inr (2, [.int 0, .int 0, .ref q1, .ref q2, .int 0, .ref q3, .int 0, .ref q4, .null, .long 0, .long 0])), (q1, .inl (d1, 80, .inl (fun _ => 0))), (q2, .inl (d2, 5600, .inl (fun _ => 0))), (q3, .inl (d3, 840, .inl (fun _ => 0))), (q4, .inl (d4, 7, .inl (fun _ => 0)))] H := hP
  have hD : va_D A [(h0, .inr (2, [.int 0, .int 0, .ref q1, .ref q2, .int 0, .ref q3, .int 0, .ref q4, .null, .long 0, .long 0])), (q1, .inl (d1, 80, .inl (fun _ => 0))), (q2, .inl (d2, 5600, .inl (fun _ => 0))), (q3, .inl (d3, 840, .inl (fun _ => 0))), (q4, .inl (d4, 7, .inl (fun _ => 0)))] := hD
  refine lv_aload_n hx hb d_M_init_38 rfl (lv_at hl 0 rfl) ?_
  refine lv_iconst (v := 5) hx hb d_M_init_39 (by decide) ?_
  refine va_newa (atype := .int) (ty := .int) hx hb (hB _ wd_34) rfl hK hP hD hS hA (N' := 5) (a0 := (5, .inl (fun _ => 0))) (fun cA => vpc cA _) (by decide +kernel) (by decide +kernel) (by decide +kernel) (show 4 + 1 ≤ 5 from by decide) (show 6527 + 5 ≤ 6532 from by decide +kernel) d_M_init_40 (fun q5 d5 H hK hP hD hS => ?_)
  have hK : va_K D vwCl [(d1, .int), (d2, .int), (d3, .int), (d4, .int), (d5, .int)] s := hK
  have hP : va_P D vwCl [(h0, .inr (2, [.int 0, .int 0, .ref q1, .ref q2, .int 0, .ref q3, .int 0, .ref q4, .null, .long 0, .long 0])), (q1, .inl (d1, 80, .inl (fun _ => 0))), (q2, .inl (d2, 5600, .inl (fun _ => 0))), (q3, .inl (d3, 840, .inl (fun _ => 0))), (q4, .inl (d4, 7, .inl (fun _ => 0))), (q5, .inl (d5, 5, .inl (fun _ => 0)))] H := hP
  have hD : va_D A [(h0, .inr (2, [.int 0, .int 0, .ref q1, .ref q2, .int 0, .ref q3, .int 0, .ref q4, .null, .long 0, .long 0])), (q1, .inl (d1, 80, .inl (fun _ => 0))), (q2, .inl (d2, 5600, .inl (fun _ => 0))), (q3, .inl (d3, 840, .inl (fun _ => 0))), (q4, .inl (d4, 7, .inl (fun _ => 0))), (q5, .inl (d5, 5, .inl (fun _ => 0)))] := hD
  refine W.widen (k := 5) (n := 6532) (by omega) (by omega) ?_
  refine va_putF (D := D) (ci := 2) (v := .ref q5) (ty := .array .int) (C := R_M) (T := F_M) (N := 11) hx hb hB inF_M t_M t_M_ok n_M hown hK hP hD hS 0 rfl rfl 8 (by decide) (hB _ wd_346) (fun _ h9 => h9) rfl hin rfl (by decide +kernel) rfl rfl (Nat.le_of_ble_eq_true rfl) d_M_init_42 (fun H locs hP hD hS => ?_)
  have hP : va_P D vwCl [(h0, .inr (2, [.int 0, .int 0, .ref q1, .ref q2, .int 0, .ref q3, .int 0, .ref q4, .ref q5, .long 0, .long 0])), (q1, .inl (d1, 80, .inl (fun _ => 0))), (q2, .inl (d2, 5600, .inl (fun _ => 0))), (q3, .inl (d3, 840, .inl (fun _ => 0))), (q4, .inl (d4, 7, .inl (fun _ => 0))), (q5, .inl (d5, 5, .inl (fun _ => 0)))] H := hP
  have hD : va_D A [(h0, .inr (2, [.int 0, .int 0, .ref q1, .ref q2, .int 0, .ref q3, .int 0, .ref q4, .ref q5, .long 0, .long 0])), (q1, .inl (d1, 80, .inl (fun _ => 0))), (q2, .inl (d2, 5600, .inl (fun _ => 0))), (q3, .inl (d3, 840, .inl (fun _ => 0))), (q4, .inl (d4, 7, .inl (fun _ => 0))), (q5, .inl (d5, 5, .inl (fun _ => 0)))] := hD
  exact W.vret hx hb hr (fun t ht hW => ⟨⟨(q1, q2, q3, q4, q5, d1, d2, d3, d4, d5), rfl, trivial, by rw [ht]; exact hP, va_K.moved hW.alike hK, hD⟩, hS.F ht⟩) hS.2.2 d_M_init_45
